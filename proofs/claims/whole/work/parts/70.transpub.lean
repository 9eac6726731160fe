/-! transform: the public methods -/
section T
variable {g : mG} {l : Launch} {d : Nat} {lk : Nat} {ex : mSh} {σ : mHp} {F : aF} {T : aI}
theorem x_transform (hT : T.1 ≤ 40) (hI : cI σ T) (hf : fOk F) (hc : cF σ F) (hs : cS σ F) (f : Int32) : mNR g l (d + 86) 89 [.ref 0, .int f] lk ex σ (.int (qTf T F f).1) (fun σ1 => fr 1 15 σ σ1 ∧ cF σ1 (qTf T F f).2 ∧ cS σ1 (qTf T F f).2 ∧ fOk (qTf T F f).2 ∧ fle F (qTf T F f).2 ∧ cI σ1 (0, T.2)) := by
  have h40 := hf.2.1
  have h4 := hf.1
  have w5 := qWd_le T
  have ok : mOkP md_X8_transform := ok_at 89 (by decide) rfl
  refine mC_of (md := md_X8_transform) rfl (lt_at (by decide)) rfl ?_
  unfold qTf
  refine mGo_run (n := 400) ok rfl ?_
  refine mGo_callP ok rfl (by omega) (c_wordIn (d := d) hT hI) ?_
  refine mGo_run (n := 400) ok rfl ?_
  have c1 : cF (mWI σ 8 1 0) F := cF_fr (lo := 8) (hi := 9) (fr.refl.WI (by omega) (by omega)) (by omega) hc
  have s1 : cS (mWI σ 8 1 0) F := cS_fr (lo := 8) (hi := 9) (fr.refl.WI (by omega) (by omega)) (by omega) hs
  have r1 : fr 1 15 σ (mWI σ 8 1 0) := fr.refl.WI (by omega) (by omega)
  have i1 : cI (mWI σ 8 1 0) (0, T.2) := ⟨by rw [WI_at, if_pos ⟨rfl, rfl⟩]; rfl, fun i hi => by simp at hi⟩
  by_cases hF : 0 ≤ f ∧ f < nI (aN F)
  · rw [if_pos hF]
    obtain ⟨j, hj, rfl⟩ := (i_in (by omega)).mp hF
    rw [nI_clamp (by omega)]
    refine mGo_callP ok rfl (by omega) (c_has1 (d := d) c1.1 h40 hj) ?_
    refine mGo_if ok rfl (fun z => ?_) (fun z => ?_)
    · exact absurd z (by decide)
    · clear z
      refine mGo_run (n := 400) ok rfl ?_
      refine mGo_callP ok rfl (by omega) (c_applies (d := d) hf c1 w5 hj) ?_
      refine mGo_ifI ok rfl (bI_0) (fun z => ?_) (fun z => ?_)
      · rw [if_neg (by rw [z]; decide)]
        refine mGo_run (n := 400) ok rfl ?_
        exact mGo_ret ok rfl trivial (⟨rfl, rfl, r1, c1, s1, hf, fle.refl, i1⟩)
      · have z : qAp (qWd T) (aK F j) = true := by simpa using z
        rw [if_pos z]
        refine mGo_run (n := 400) ok rfl ?_
        rw [c1.1]
        refine mGo_call ok rfl (by omega) (c_makeBy (d := d) hf c1 s1 w5 hj z) (fun r sp τ hq => ?_)
        obtain ⟨rfl, q1, q2⟩ := hq
        have r2 : fr 1 15 σ τ := r1.trans (fun i hi => q1 i (by omega) (by omega))
        have i2 : cI τ (0, T.2) := ⟨by rw [(q1 8 (by omega) (by omega)).1]; exact i1.1, fun i hi => by simp at hi⟩
        cases e : qMk (qWd T) F j with
        | none =>
          rw [e] at q2
          obtain ⟨rfl, F1, b1, b2, b3, b4⟩ := q2
          have := b3.2.1
          have := b4.1
          refine mGo_run (n := 400) ok rfl ?_
          refine mGo_if ok rfl (fun z2 => ?_) (fun z2 => ?_)
          · exact absurd z2 (by decide)
          · refine mGo_run (n := 400) ok rfl ?_
            refine mGo_callV ok rfl (by omega) (c_shrinkTo (d := d) b1.1 (by omega) (k := aN F) (by omega) (by omega)) (fun τ1 hτ1 => ?_)
            subst hτ1
            refine mGo_run (n := 400) ok rfl ?_
            exact mGo_ret ok rfl trivial (⟨rfl, rfl, r2.WI (by omega) (by omega), cF_cut b4 b1, cS_cut b4 b2, hf, fle.refl, by rw [WI_at, if_neg (by omega)]; exact i2.1, fun i hi => by simp at hi⟩)
        | some x =>
          obtain ⟨v, F1⟩ := x
          rw [e] at q2
          obtain ⟨rfl, b1, b2, b3, b4, b5⟩ := q2
          have := b3.2.1
          refine mGo_run (n := 400) ok rfl ?_
          refine mGo_if ok rfl (fun z2 => ?_) (fun z2 => ?_)
          · refine mGo_run (n := 400) ok rfl ?_
            exact mGo_ret ok rfl trivial (⟨rfl, rfl, r2, b1, b2, b3, b4, i2⟩)
          · exact absurd (nI_pos' (by omega)) z2
  · rw [if_neg hF]
    refine mGo_callP ok rfl (by omega) (c_has0 (d := d) c1.1 h40 (fun z => hF ((i_in (by omega)).mpr z))) ?_
    refine mGo_if ok rfl (fun z => ?_) (fun z => ?_)
    · refine mGo_run (n := 400) ok rfl ?_
      exact mGo_ret ok rfl trivial (⟨rfl, rfl, r1, c1, s1, hf, fle.refl, i1⟩)
    · exact absurd rfl z
/-- what making by a word comes to, in the reference -/
def uQ (lk : Nat) (ex : mSh) (σ : mHp) (F : aF) (o : Option (Nat × aF)) (r : Option Value) (sp : mSh) (σ1 : mHp) : Prop := sp = SH lk ex ∧ frY σ σ1 ∧ match o with
  | none => ∃ F1, mF σ1 F1 ∧ σ1.1 48 4 = bI true ∧ fle F F1 ∧ ∃ v : Nat, r = some (.int (nI v))
  | some (v, F1) => r = some (.int (nI v)) ∧ mF σ1 F1 ∧ σ1.1 48 4 = bI false ∧ fOk F1 ∧ fle F F1 ∧ v < aN F1
/-- for makings without a translation the translated row does not matter: any row will do -/
theorem aMm_full2 {F : aF} (k a b : Nat) : ∃ j, aMm F true k a b = (j, F, true) ∧ (4 ≤ aN F → j < aN F) := aMm_full k a b
theorem m_mk2 (hf : fOk F) (hm : mF σ F) (hfl : σ.1 48 4 = bI false) {k a b : Nat} (hk : 1 ≤ k ∧ k ≤ 4) (ha : a < aN F) (hb : b < aN F) (hb1 : k = 1 → b = 0) : mC g l d 120 [.ref 48, .int (nI k), .int (nI a), .int (nI b)] (SH lk ex) σ (fun r sp σ1 => sp = SH lk ex ∧ frY σ σ1 ∧ match mkS F k a b with
  | none => mF σ1 F ∧ σ1.1 48 4 = bI true ∧ ∃ v, v < aN F ∧ r = some (.int (nI v))
  | some (v, F1) => r = some (.int (nI v)) ∧ mF σ1 F1 ∧ σ1.1 48 4 = bI false ∧ fOk F1 ∧ fle F F1 ∧ v < aN F1) := by
  obtain ⟨m1, m2, m3⟩ := aMk_ok hf hk ha hb hb1
  refine mC_mono (m_make (g := g) (l := l) (d := d) (lk := lk) (ex := ex) hf hm hfl hk ha hb) (fun r sp σ1 q => ?_)
  rw [aMm_of hf] at q
  obtain ⟨q1, q2, q3, q4, q5, q6⟩ := q
  refine ⟨q2, frY_F q3 q4, ?_⟩
  unfold mkS
  cases e : (aMk F k a b).1 with
  | none =>
    rw [e] at q1 q5 q6
    exact ⟨q5, q6, 0, by have := hf.1; omega, q1⟩
  | some v =>
    rw [e] at q1 q5 q6
    exact ⟨q1, q5, q6, m1, aMk_fle F k a b, m2 v e⟩
theorem m_mk2F (hf : fOk F) (hm : mF σ F) (hfl : σ.1 48 4 = bI true) {k a b : Nat} (hk : 1 ≤ k ∧ k ≤ 4) (ha : a < aN F) (hb : b < aN F) : mC g l d 120 [.ref 48, .int (nI k), .int (nI a), .int (nI b)] (SH lk ex) σ (fun r sp σ1 => sp = SH lk ex ∧ frY σ σ1 ∧ mF σ1 F ∧ σ1.1 48 4 = bI true ∧ ∃ v, v < aN F ∧ r = some (.int (nI v))) := by
  obtain ⟨j, e, hj⟩ := aMm_full (F := F) k a b
  refine mC_mono (m_make (g := g) (l := l) (d := d) (lk := lk) (ex := ex) hf hm hfl hk ha hb) (fun r sp σ1 q => ?_)
  rw [e] at q
  obtain ⟨q1, q2, q3, q4, q5, q6⟩ := q
  exact ⟨q2, frY_F q3 q4, q5, q6, j, hj hf.1, q1⟩
theorem m_neg2 (hf : fOk F) (hm : mF σ F) (hfl : σ.1 48 4 = bI false) {a : Nat} (ha : a < aN F) : mC g l (d + 1) 145 [.ref 48, .int (nI a)] (SH lk ex) σ (fun r sp σ1 => sp = SH lk ex ∧ frY σ σ1 ∧ match mkS F 1 a 0 with
  | none => mF σ1 F ∧ σ1.1 48 4 = bI true ∧ ∃ v, v < aN F ∧ r = some (.int (nI v))
  | some (v, F1) => r = some (.int (nI v)) ∧ mF σ1 F1 ∧ σ1.1 48 4 = bI false ∧ fOk F1 ∧ fle F F1 ∧ v < aN F1) := by
  have ok : mOkP md_X9_not := ok_at 145 (by decide) rfl
  refine mC_of (md := md_X9_not) rfl (lt_at (by decide)) rfl ?_
  refine mGo_run (n := 400) ok rfl ?_
  refine mGo_call ok rfl (by omega) (m_mk2 (d := d) (k := 1) (b := 0) hf hm hfl (by omega) ha (by have := hf.1; omega) (fun _ => rfl)) (fun r sp τ hq => ?_)
  obtain ⟨rfl, q1, q2⟩ := hq
  cases e : mkS F 1 a 0 with
  | none =>
    rw [e] at q2
    obtain ⟨q2, q4, v, q3, rfl⟩ := q2
    refine mGo_run (n := 400) ok rfl ?_
    exact mGo_ret ok rfl trivial (⟨rfl, q1, q2, q4, v, q3, rfl⟩)
  | some x =>
    obtain ⟨v, F1⟩ := x
    rw [e] at q2
    obtain ⟨rfl, q2⟩ := q2
    refine mGo_run (n := 400) ok rfl ?_
    exact mGo_ret ok rfl trivial (⟨rfl, q1, rfl, q2⟩)
theorem m_neg2F (hf : fOk F) (hm : mF σ F) (hfl : σ.1 48 4 = bI true) {a : Nat} (ha : a < aN F) : mC g l (d + 1) 145 [.ref 48, .int (nI a)] (SH lk ex) σ (fun r sp σ1 => sp = SH lk ex ∧ frY σ σ1 ∧ mF σ1 F ∧ σ1.1 48 4 = bI true ∧ ∃ v, v < aN F ∧ r = some (.int (nI v))) := by
  have ok : mOkP md_X9_not := ok_at 145 (by decide) rfl
  refine mC_of (md := md_X9_not) rfl (lt_at (by decide)) rfl ?_
  refine mGo_run (n := 400) ok rfl ?_
  refine mGo_call ok rfl (by omega) (m_mk2F (d := d) (k := 1) (b := 0) hf hm hfl (by omega) ha (by have := hf.1; omega)) (fun r sp τ hq => ?_)
  obtain ⟨rfl, q1, q2, q4, v, q3, rfl⟩ := hq
  refine mGo_run (n := 400) ok rfl ?_
  exact mGo_ret ok rfl trivial (⟨rfl, q1, q2, q4, v, q3, rfl⟩)
set_option maxHeartbeats 1000000 in
theorem m_transformed (hf : fOk F) (hm : mF σ F) (hfl : σ.1 48 4 = bI false) {w j : Nat} (hw : w ≤ 5) (hj : j < aN F) (ha : qAp w (aK F j) = true) : mC g l (d + 85) 148 [.ref 48, .int (nI (w - 1)), .int (nI j)] (SH lk ex) σ (uQ lk ex σ F (qMk w F j)) := by
  obtain ⟨a1, a2, a3⟩ := qAp_k ha
  obtain ⟨w1, w2, w3, w4, w5, w6⟩ := hf.2.2 j hj
  obtain ⟨c1, c2, c3⟩ := hm.2 j hj
  have h40 := hf.2.1
  have h4 := hf.1
  have ok : mOkP md_X9_transformed := ok_at 148 (by decide) rfl
  refine mC_of (md := md_X9_transformed) rfl (lt_at (by decide)) rfl ?_
  refine mGo_run (n := 400) ok rfl ?_
  refine mGo_sw ok rfl ⟨fun h => ?_, fun h => ⟨fun h1 => ?_, fun h1 => ⟨fun h2 => ?_, fun h2 => ⟨fun h3 => ?_, fun h3 => ?_⟩⟩⟩⟩
  · have e : w = 1 := by have := (nI_eq (a := w - 1) (b := 0) (by omega) (by omega)).mp h; omega
    subst e
    show mGo g l (d + 85) md_X9_transformed _ _ _ (uQ lk ex σ F (mkS F 1 j 0))
    refine mGo_run (n := 400) ok rfl ?_
    refine mGo_call ok rfl (by omega) (m_neg2 (d := d) hf hm hfl hj) (fun r sp τ hq => ?_)
    obtain ⟨rfl, q1, q2⟩ := hq
    cases e : mkS F 1 j 0 with
    | none =>
      rw [e] at q2
      obtain ⟨b1, b2, v, b3, rfl⟩ := q2
      refine mGo_run (n := 400) ok rfl ?_
      exact mGo_ret ok rfl trivial (⟨rfl, q1, F, b1, b2, fle.refl, v, rfl⟩)
    | some x =>
      obtain ⟨v, F1⟩ := x
      rw [e] at q2
      obtain ⟨rfl, q2⟩ := q2
      refine mGo_run (n := 400) ok rfl ?_
      exact mGo_ret ok rfl trivial (⟨rfl, q1, rfl, q2⟩)
  · have e : w = 2 := by have := (nI_eq (a := w - 1) (b := 1) (by omega) (by omega)).mp h1; omega
    subst e
    show mGo g l (d + 85) md_X9_transformed _ _ _ (uQ lk ex σ F ((mkS F 1 j 0).bind (fun x => mkS x.2 1 x.1 0)))
    refine mGo_run (n := 400) ok rfl ?_
    refine mGo_call ok rfl (by omega) (m_neg2 (d := d) hf hm hfl hj) (fun r sp τ hq => ?_)
    obtain ⟨rfl, q1, q2⟩ := hq
    cases e : mkS F 1 j 0 with
    | none =>
      rw [e] at q2
      obtain ⟨b1, b2, v, b3, rfl⟩ := q2
      refine mGo_run (n := 400) ok rfl ?_
      refine mGo_call ok rfl (by omega) (m_neg2F (d := d) hf b1 b2 b3) (fun r sp τ2 hq => ?_)
      obtain ⟨rfl, p1, p2, p3, v2, p4, rfl⟩ := hq
      refine mGo_run (n := 400) ok rfl ?_
      exact mGo_ret ok rfl trivial (⟨rfl, q1.trans p1, F, p2, p3, fle.refl, v2, rfl⟩)
    | some x =>
      obtain ⟨v, F1⟩ := x
      rw [e] at q2
      obtain ⟨rfl, b1, b2, b3, b4, b5⟩ := q2
      simp only [Option.bind_some]
      refine mGo_run (n := 400) ok rfl ?_
      refine mGo_call ok rfl (by omega) (m_neg2 (d := d) b3 b1 b2 b5) (fun r sp τ2 hq => ?_)
      obtain ⟨rfl, p1, p2⟩ := hq
      cases e2 : mkS F1 1 v 0 with
      | none =>
        rw [e2] at p2
        obtain ⟨g1, g2, v2, g3, rfl⟩ := p2
        refine mGo_run (n := 400) ok rfl ?_
        exact mGo_ret ok rfl trivial (⟨rfl, q1.trans p1, F1, g1, g2, b4, v2, rfl⟩)
      | some y =>
        obtain ⟨v2, F2⟩ := y
        rw [e2] at p2
        obtain ⟨rfl, g1, g2, g3, g4, g5⟩ := p2
        refine mGo_run (n := 400) ok rfl ?_
        exact mGo_ret ok rfl trivial (⟨rfl, q1.trans p1, rfl, g1, g2, g3, b4.trans g4, g5⟩)
  · have e : w = 3 := by have := (nI_eq (a := w - 1) (b := 2) (by omega) (by omega)).mp h2; omega
    subst e
    have hk := a2 rfl
    have hA := w3 (by omega)
    have hB := w4 (by omega)
    show mGo g l (d + 85) md_X9_transformed _ _ _ (uQ lk ex σ F (mkS F (aK F j) (aB F j) (aA F j)))
    refine mGo_run (n := 400) ok rfl ?_
    refine mGo_side ok rfl (nI_in (by omega) (by omega)) ?_
    rw [nI_clamp (n := j) (by omega), c1]
    refine mGo_run (n := 400) ok rfl ?_
    refine mGo_side ok rfl (nI_in (by omega) (by omega)) ?_
    rw [nI_clamp (n := j) (by omega), c3]
    refine mGo_run (n := 400) ok rfl ?_
    refine mGo_side ok rfl (nI_in (by omega) (by omega)) ?_
    rw [nI_clamp (n := j) (by omega), c2]
    refine mGo_run (n := 400) ok rfl ?_
    refine mGo_call ok rfl (by omega) (m_mk2 (d := d) hf hm hfl (k := aK F j) (by omega) (by omega) (by omega) (fun z => by omega)) (fun r sp τ hq => ?_)
    obtain ⟨rfl, q1, q2⟩ := hq
    cases e : mkS F (aK F j) (aB F j) (aA F j) with
    | none =>
      rw [e] at q2
      obtain ⟨b1, b2, v, b3, rfl⟩ := q2
      refine mGo_run (n := 400) ok rfl ?_
      exact mGo_ret ok rfl trivial (⟨rfl, q1, F, b1, b2, fle.refl, v, rfl⟩)
    | some x =>
      obtain ⟨v, F1⟩ := x
      rw [e] at q2
      obtain ⟨rfl, q2⟩ := q2
      refine mGo_run (n := 400) ok rfl ?_
      exact mGo_ret ok rfl trivial (⟨rfl, q1, rfl, q2⟩)
  · have e : w = 4 := by have := (nI_eq (a := w - 1) (b := 3) (by omega) (by omega)).mp h3; omega
    subst e
    have hk := a3 rfl
    have hA := w3 (by omega)
    have hB := w4 (by omega)
    show mGo g l (d + 85) md_X9_transformed _ _ _ (uQ lk ex σ F ((mkS F 1 (aB F j) 0).bind (fun x => (mkS x.2 1 (aA F j) 0).bind (fun y => mkS y.2 4 x.1 y.1))))
    refine mGo_run (n := 400) ok rfl ?_
    refine mGo_side ok rfl (nI_in (by omega) (by omega)) ?_
    rw [nI_clamp (n := j) (by omega), c3]
    refine mGo_run (n := 400) ok rfl ?_
    refine mGo_call ok rfl (by omega) (m_neg2 (d := d) hf hm hfl (a := aB F j) (by omega)) (fun r sp τ hq => ?_)
    obtain ⟨rfl, q1, q2⟩ := hq
    cases e : mkS F 1 (aB F j) 0 with
    | none =>
      rw [e] at q2
      obtain ⟨b1, b2, v, b3, rfl⟩ := q2
      refine mGo_run (n := 400) ok rfl ?_
      refine mGo_side ok rfl (nI_in (by omega) (by omega)) ?_
      rw [nI_clamp (n := j) (by omega), (b1.2 j hj).2.1]
      refine mGo_run (n := 400) ok rfl ?_
      refine mGo_call ok rfl (by omega) (m_neg2F (d := d) hf b1 b2 (a := aA F j) (by omega)) (fun r sp τ2 hq => ?_)
      obtain ⟨rfl, p1, p2, p3, v2, p4, rfl⟩ := hq
      refine mGo_run (n := 400) ok rfl ?_
      refine mGo_call ok rfl (by omega) (m_mk2F (d := d) hf p2 p3 (k := 4) (by omega) b3 p4) (fun r sp τ3 hq => ?_)
      obtain ⟨rfl, u1, u2, u3, v3, u4, rfl⟩ := hq
      refine mGo_run (n := 400) ok rfl ?_
      exact mGo_ret ok rfl trivial (⟨rfl, (q1.trans p1).trans u1, F, u2, u3, fle.refl, v3, rfl⟩)
    | some x =>
      obtain ⟨v, F1⟩ := x
      rw [e] at q2
      obtain ⟨rfl, b1, b2, b3, b4, b5⟩ := q2
      have hj1 : j < aN F1 := Nat.lt_of_lt_of_le hj b4.1
      have hA1 : aA F j < aN F1 := by omega
      have cA : τ.1 50 j = nI (aA F j) := by rw [(b1.2 j hj1).2.1, (b4.2 j hj).2.1]
      simp only [Option.bind_some]
      refine mGo_run (n := 400) ok rfl ?_
      refine mGo_side ok rfl (nI_in (by omega) (by omega)) ?_
      rw [nI_clamp (n := j) (by omega), cA]
      refine mGo_run (n := 400) ok rfl ?_
      refine mGo_call ok rfl (by omega) (m_neg2 (d := d) b3 b1 b2 hA1) (fun r sp τ2 hq => ?_)
      obtain ⟨rfl, p1, p2⟩ := hq
      cases e2 : mkS F1 1 (aA F j) 0 with
      | none =>
        rw [e2] at p2
        obtain ⟨g1, g2, v2, g3, rfl⟩ := p2
        refine mGo_run (n := 400) ok rfl ?_
        refine mGo_call ok rfl (by omega) (m_mk2F (d := d) b3 g1 g2 (k := 4) (by omega) b5 g3) (fun r sp τ3 hq => ?_)
        obtain ⟨rfl, u1, u2, u3, v3, u4, rfl⟩ := hq
        refine mGo_run (n := 400) ok rfl ?_
        exact mGo_ret ok rfl trivial (⟨rfl, (q1.trans p1).trans u1, F1, u2, u3, b4, v3, rfl⟩)
      | some y =>
        obtain ⟨v2, F2⟩ := y
        rw [e2] at p2
        obtain ⟨rfl, g1, g2, g3, g4, g5⟩ := p2
        simp only [Option.bind_some]
        refine mGo_run (n := 400) ok rfl ?_
        refine mGo_call ok rfl (by omega) (m_mk2 (d := d) g3 g1 g2 (k := 4) (by omega) (Nat.lt_of_lt_of_le b5 g4.1) g5 (fun z => by omega)) (fun r sp τ3 hq => ?_)
        obtain ⟨rfl, u1, u2⟩ := hq
        cases e3 : mkS F2 4 v v2 with
        | none =>
          rw [e3] at u2
          obtain ⟨i1, i2, v3, i3, rfl⟩ := u2
          refine mGo_run (n := 400) ok rfl ?_
          exact mGo_ret ok rfl trivial (⟨rfl, (q1.trans p1).trans u1, F2, i1, i2, b4.trans g4, v3, rfl⟩)
        | some y3 =>
          obtain ⟨v3, F3⟩ := y3
          rw [e3] at u2
          obtain ⟨rfl, i1, i2, i3, i4, i5⟩ := u2
          refine mGo_run (n := 400) ok rfl ?_
          exact mGo_ret ok rfl trivial (⟨rfl, (q1.trans p1).trans u1, rfl, i1, i2, i3, (b4.trans g4).trans i4, i5⟩)
  · have n1 : w ≠ 1 := fun z => h (by rw [z]; rfl)
    have n2 : w ≠ 2 := fun z => h1 (by rw [z]; rfl)
    have n3 : w ≠ 3 := fun z => h2 (by rw [z]; rfl)
    have n4 : w ≠ 4 := fun z => h3 (by rw [z]; rfl)
    have e : w = 5 := by omega
    subst e
    show mGo g l (d + 85) md_X9_transformed _ _ _ (uQ lk ex σ F ((TR 40 F (fun _ => none) j).bind (fun x => some (x.1, x.2.1))))
    refine mGo_runS 102 (n := 400) ok rfl ?_
    have loop : ∀ m i, i + m = 40 → ∀ τ : mHp, frY σ τ → mF τ F → τ.1 48 4 = bI false → (∀ x, x < i → τ.1 56 x = -1) → mGo g l (d + 85) md_X9_transformed (SH lk ex).length (mTot (SH lk ex)) (102, [some (.ref 48), some (.int (nI (5 - 1))), some (.int (nI j)), none, some (.int (nI i))], [], SH lk ex, τ) (uQ lk ex σ F ((TR 40 F (fun _ => none) j).bind (fun x => some (x.1, x.2.1)))) := by
      intro m
      induction m with
      | zero =>
        intro i hi τ t1 t2 t3 t4
        have t0 : mSt τ F (fun _ => none) := ⟨t2, t3, hf, fun x hx => t4 x (by omega), fun i v hv => by cases hv⟩
        refine mGo_run (n := 400) ok rfl ?_
        refine mGo_ifI ok rfl (nI_leI (a := 40) (b := i) (by omega) (by omega)) (fun h1 => ?_) (fun h1 => ?_)
        · refine mGo_run (n := 400) ok rfl ?_
          refine mGo_call ok rfl (by omega) (m_translate 40 d τ F (fun _ => none) j (by omega) hj t0) (fun r sp τ2 hq => ?_)
          obtain ⟨rfl, q1, q2⟩ := hq
          cases e : TR 40 F (fun _ => none) j with
          | none =>
            rw [e] at q2
            obtain ⟨F1, b1, b2, v, b3, rfl⟩ := q2
            refine mGo_run (n := 400) ok rfl ?_
            exact mGo_ret ok rfl trivial (⟨rfl, t1.trans q1, F1, b1.1, b1.2.1, b2, v, rfl⟩)
          | some x =>
            obtain ⟨v, F1, im1⟩ := x
            rw [e] at q2
            obtain ⟨rfl, ⟨b1, b2, b3, -, -⟩, b4, b5⟩ := q2
            refine mGo_run (n := 400) ok rfl ?_
            exact mGo_ret ok rfl trivial (⟨rfl, t1.trans q1, rfl, b1, b2, b3, b4, b5⟩)
        · omega
      | succ m ih =>
        intro i hi τ t1 t2 t3 t4
        refine mGo_run (n := 400) ok rfl ?_
        refine mGo_ifI ok rfl (nI_leI (a := 40) (b := i) (by omega) (by omega)) (fun h1 => ?_) (fun h1 => ?_)
        · omega
        · refine mGo_run (n := 400) ok rfl ?_
          refine mGo_side ok rfl (nI_in (by omega) (by omega)) ?_
          rw [nI_clamp (by omega)]
          refine mGo_runS 102 (n := 400) ok rfl ?_
          rw [nI_1]
          refine ih (i + 1) (by omega) _ t1.W (mF_Wc t2 (by omega)) (by rw [WI_at, if_neg (by omega)]; exact t3) (fun x hx => ?_)
          rw [WI_at]
          by_cases z : x = i
          · rw [if_pos ⟨rfl, z⟩]
          · rw [if_neg (fun y => z y.2)]; exact t4 x (by omega)
    exact loop 40 0 (by omega) σ frY.refl hm hfl (fun x hx => by omega)
set_option maxHeartbeats 1000000 in
theorem y_transform (hT : T.1 ≤ 40) (hI : mI σ T) (hf : fOk F) (hm : mF σ F) (f : Int32) : mNR g l (d + 86) 149 [.ref 48, .int f] lk ex σ (.int (qTf T F f).1) (fun σ1 => fr 48 57 σ σ1 ∧ fm [0, 4, 6] σ σ1 ∧ (∀ i, 52 ≤ i → i < 56 → sm3 σ σ1 i) ∧ mF σ1 (qTf T F f).2 ∧ mI σ1 (0, T.2)) := by
  have h40 := hf.2.1
  have h4 := hf.1
  have w5 := qWd_le T
  have hw0 : qWd T ≠ 0 → nI (qWd T - 1) ≠ -5 := fun _ => nI_b (by omega)
  have ok : mOkP md_X9_transform := ok_at 149 (by decide) rfl
  refine mC_of (md := md_X9_transform) rfl (lt_at (by decide)) rfl ?_
  unfold qTf
  refine mGo_run (n := 400) ok rfl ?_
  refine mGo_callR ok rfl (by omega) (y_clearInput (d := d) hI) (fun τ0 hτ0 => ?_)
  subst hτ0
  have m1 : mF (mWI σ 48 6 0) F := mF_W hm (by omega)
  have r1 : frY (mWI σ 48 6 0) (mWI σ 48 6 0) := frY.refl
  have fin : ∀ {τ : mHp}, frY (mWI σ 48 6 0) τ → fr 48 57 σ τ ∧ fm [0, 4, 6] σ τ ∧ (∀ i, 52 ≤ i → i < 56 → sm3 σ τ i) ∧ mI τ (0, T.2) := by
    intro τ t
    have a : fr 48 49 σ (mWI σ 48 6 0) := fr.refl.WI (by omega) (by omega)
    refine ⟨fun i hi => (show sm3 σ τ i from sm3.trans (a i (by omega)) (t.1 i (by omega) (by omega))), (fm.refl.WI (fun _ => by decide)).trans (t.2.wide (by decide)), fun i h1 h2 => sm3.trans (a i (by omega)) (t.1 i (by omega) (by omega)), ?_, fun i hi => by simp at hi⟩
    rw [(t.2 6 (by decide)).1, WI_at, if_pos ⟨rfl, rfl⟩]; rfl
  refine mGo_run (n := 400) ok rfl ?_
  by_cases hF : 0 ≤ f ∧ f < nI (aN F)
  · rw [if_pos hF]
    obtain ⟨j, hj, rfl⟩ := (i_in (by omega)).mp hF
    rw [nI_clamp (by omega)]
    obtain ⟨c1, c2, c3⟩ := m1.2 j hj
    have hk4 := (hf.2.2 j hj).2.1
    refine mGo_callP ok rfl (by omega) (m_isFormula1 (d := d) m1.1 h4 h40 hj) ?_
    refine mGo_if ok rfl (fun z => ?_) (fun z => ?_)
    · exact absurd z (by decide)
    · clear z
      refine mGo_run (n := 400) ok rfl ?_
      refine mGo_callP ok rfl (by omega) (m_readWord (d := d) hT (fun i hi => by rw [WI_at, if_neg (by omega)]; exact hI.2 i hi)) ?_
      have bad : ∀ L4 L5 : Option Value, qAp (qWd T) (aK F j) = false → mGo g l (d + 86) md_X9_transform (SH lk ex).length (mTot (SH lk ex)) (80, [some (.ref 48), some (.int (nI j)), some (.int (nI T.1)), some (.int (if qWd T = 0 then -5 else nI (qWd T - 1))), L4, L5], [], SH lk ex, mWI σ 48 6 0) (fun r sp σ1 => r = some (.int (if qAp (qWd T) (aK F j) = true then (match qMk (qWd T) F j with
          | none => (-3, F)
          | some (v, F1) => (nI v, F1)) else (-4, F)).1) ∧ sp = SH lk ex ∧ (fr 48 57 σ σ1 ∧ fm [0, 4, 6] σ σ1 ∧ (∀ i, 52 ≤ i → i < 56 → sm3 σ σ1 i) ∧ mF σ1 (if qAp (qWd T) (aK F j) = true then (match qMk (qWd T) F j with
          | none => (-3, F)
          | some (v, F1) => (nI v, F1)) else (-4, F)).2 ∧ mI σ1 (0, T.2))) := by
        intro L4 L5 hq
        rw [if_neg (show ¬ qAp (qWd T) (aK F j) = true by rw [hq]; decide)]
        refine mGo_run (n := 400) ok rfl ?_
        exact mGo_ret ok rfl trivial (⟨rfl, rfl, (fin r1).1, (fin r1).2.1, (fin r1).2.2.1, m1, (fin r1).2.2.2⟩)
      have good : ∀ (x4 : Int32) (L5 : Option Value), qAp (qWd T) (aK F j) = true → mGo g l (d + 86) md_X9_transform (SH lk ex).length (mTot (SH lk ex)) (83, [some (.ref 48), some (.int (nI j)), some (.int (nI T.1)), some (.int (if qWd T = 0 then -5 else nI (qWd T - 1))), some (.int x4), L5], [], SH lk ex, mWI σ 48 6 0) (fun r sp σ1 => r = some (.int (if qAp (qWd T) (aK F j) = true then (match qMk (qWd T) F j with
          | none => (-3, F)
          | some (v, F1) => (nI v, F1)) else (-4, F)).1) ∧ sp = SH lk ex ∧ (fr 48 57 σ σ1 ∧ fm [0, 4, 6] σ σ1 ∧ (∀ i, 52 ≤ i → i < 56 → sm3 σ σ1 i) ∧ mF σ1 (if qAp (qWd T) (aK F j) = true then (match qMk (qWd T) F j with
          | none => (-3, F)
          | some (v, F1) => (nI v, F1)) else (-4, F)).2 ∧ mI σ1 (0, T.2))) := by
        intro x4 L5 hq
        have n0 : ¬ qWd T = 0 := by have := (qAp_k hq).1; omega
        rw [if_pos hq, if_neg n0]
        refine mGo_run (n := 400) ok rfl ?_
        refine mGo_side ok rfl (Or.inl rfl) ?_
        refine mGo_run (n := 400) ok rfl ?_
        rw [m1.1]
        have m2 : mF (mWI (mWI σ 48 6 0) 48 4 0) F := mF_W m1 (by omega)
        have r2 : frY (mWI σ 48 6 0) (mWI (mWI σ 48 6 0) 48 4 0) := ⟨fun i a b => ⟨by funext x; rw [WI_at, if_neg (by omega)], rfl, rfl⟩, fm.refl.WI (fun _ => by decide)⟩
        refine mGo_call ok rfl (by omega) (m_transformed (d := d) hf m2 (by rw [WI_at, if_pos ⟨rfl, rfl⟩]; rfl) w5 hj hq) (fun r sp τ hq2 => ?_)
        obtain ⟨rfl, q1, q2⟩ := hq2
        cases e : qMk (qWd T) F j with
        | none =>
          rw [e] at q2
          obtain ⟨F1, b1, b2, b3, v, rfl⟩ := q2
          refine mGo_callR ok rfl (by omega) (m_settled (d := d) b2 _ _) (fun τ3 hτ3 => ?_)
          have hτ3 : τ3 = mWI τ 48 0 (nI (aN F)) := hτ3
          subst hτ3
          obtain ⟨u1, u2, u3, u4⟩ := fin (r2.trans q1)
          refine mGo_run (n := 400) ok rfl ?_
          exact mGo_ret ok rfl trivial (⟨rfl, rfl, u1.WI (by decide) (by decide), u2.WI (fun _ => by decide), fun i h1 h2 => ⟨by rw [← (u3 i h1 h2).1]; funext x; rw [WI_at, if_neg (by omega)], (u3 i h1 h2).2⟩, mF_cut b3 b1, by rw [WI_at, if_neg (by omega)]; exact u4.1, fun i hi => by simp at hi⟩)
        | some x =>
          obtain ⟨v, F1⟩ := x
          rw [e] at q2
          obtain ⟨rfl, b1, b2, b3, b4, b5⟩ := q2
          refine mGo_callR ok rfl (by omega) (m_settled (d := d) b2 _ _) (fun τ3 hτ3 => ?_)
          have hτ3 : τ3 = τ := hτ3
          subst hτ3
          obtain ⟨u1, u2, u3, u4⟩ := fin (r2.trans q1)
          refine mGo_run (n := 400) ok rfl ?_
          exact mGo_ret ok rfl trivial (⟨rfl, rfl, u1, u2, u3, b1, u4⟩)
      have qf : (qWd T = 2 + 1 → aK F j ≠ 2 ∧ aK F j ≠ 3) → (qWd T = 3 + 1 → aK F j ≠ 4) → (qWd T = 3 ∨ qWd T = 4 ∨ qWd T = 0) → qAp (qWd T) (aK F j) = false := by
        intro h1 h2 h3
        cases hq : qAp (qWd T) (aK F j) with
        | false => rfl
        | true =>
          obtain ⟨x1, x2, x3⟩ := qAp_k hq
          rcases h3 with z | z | z
          · rcases x2 z with y | y
            · exact absurd y (h1 z).1
            · exact absurd y (h1 z).2
          · exact absurd (x3 z) (h2 z)
          · omega
      have qt : (qWd T = 3 → aK F j = 2 ∨ aK F j = 3) → (qWd T = 4 → aK F j = 4) → qWd T ≠ 0 → qAp (qWd T) (aK F j) = true := by
        intro h1 h2 h3
        unfold qAp
        by_cases z : qWd T = 3
        · rw [if_pos z]
          rcases h1 z with y | y <;> (rw [y]; rfl)
        · rw [if_neg z]
          by_cases z4 : qWd T = 4
          · rw [if_pos z4, h2 z4]; rfl
          · rw [if_neg z4]
            rw [show Nat.beq (qWd T) 0 = false from nbq h3]; rfl
      by_cases w0 : qWd T = 0
      · have hb := fun L4 L5 => bad L4 L5 (qf (fun z => by omega) (fun z => by omega) (Or.inr (Or.inr w0)))
        rw [if_pos w0] at hb ⊢
        refine mGo_run (n := 400) ok rfl ?_
        refine mGo_if ok rfl (fun z => ?_) (fun z => ?_)
        · exact absurd z (by decide)
        · refine mGo_run (n := 400) ok rfl ?_
          refine mGo_if ok rfl (fun z => ?_) (fun z => ?_)
          · exact hb _ _
          · exact absurd rfl z
      · have hb := bad
        have hg := good
        rw [if_neg w0] at hb hg ⊢
        have rest : ∀ L5 : Option Value, ∀ b : Bool, (b = true ↔ (qWd T = 3 → aK F j = 2 ∨ aK F j = 3)) → mGo g l (d + 86) md_X9_transform (SH lk ex).length (mTot (SH lk ex)) (54, [some (.ref 48), some (.int (nI j)), some (.int (nI T.1)), some (.int (nI (qWd T - 1))), some (.int (bI b)), L5], [], SH lk ex, mWI σ 48 6 0) (fun r sp σ1 => r = some (.int (if qAp (qWd T) (aK F j) = true then (match qMk (qWd T) F j with
          | none => (-3, F)
          | some (v, F1) => (nI v, F1)) else (-4, F)).1) ∧ sp = SH lk ex ∧ (fr 48 57 σ σ1 ∧ fm [0, 4, 6] σ σ1 ∧ (∀ i, 52 ≤ i → i < 56 → sm3 σ σ1 i) ∧ mF σ1 (if qAp (qWd T) (aK F j) = true then (match qMk (qWd T) F j with
          | none => (-3, F)
          | some (v, F1) => (nI v, F1)) else (-4, F)).2 ∧ mI σ1 (0, T.2))) := by
          intro L5 b hbb
          refine mGo_run (n := 400) ok rfl ?_
          refine mGo_if ok rfl (fun z => ?_) (fun z => ?_)
          · exact absurd z (hw0 w0)
          · refine mGo_run (n := 400) ok rfl ?_
            refine mGo_ifI ok rfl (bI_0) (fun z2 => ?_) (fun z2 => ?_)
            · have h3 : qWd T = 3 := by
                rcases Nat.decEq (qWd T) 3 with y | y
                · exact absurd (hbb.mpr (fun x => absurd x y)) (by rw [z2]; decide)
                · exact y
              refine hb _ _ (qf (fun _ => ?_) (fun y => by omega) (Or.inl h3))
              have hn : ¬ (aK F j = 2 ∨ aK F j = 3) := fun y => absurd (hbb.mpr (fun _ => y)) (by rw [z2]; decide)
              exact ⟨fun y => hn (Or.inl y), fun y => hn (Or.inr y)⟩
            · have z2 : b = true := by simpa using z2
              refine mGo_run (n := 400) ok rfl ?_
              refine mGo_ifI ok rfl (nI_eq (a := qWd T - 1) (b := 3) (by omega) (by omega)) (fun z3 => ?_) (fun z3 => ?_)
              · refine mGo_run (n := 400) ok rfl ?_
                refine mGo_side ok rfl (nI_in (by omega) (by omega)) ?_
                rw [nI_clamp (n := j) (by omega), c1]
                refine mGo_run (n := 400) ok rfl ?_
                refine mGo_ifI ok rfl (nI_eq (a := aK F j) (b := 4) (by omega) (by omega)) (fun z4 => ?_) (fun z4 => ?_)
                · exact hg _ _ (qt (hbb.mp z2) (fun _ => z4) w0)
                · exact hb _ _ (qf (fun y => by omega) (fun _ => z4) (Or.inr (Or.inl (by omega))))
              · exact hg _ _ (qt (hbb.mp z2) (fun y => by omega) w0)
        refine mGo_run (n := 400) ok rfl ?_
        refine mGo_ifI ok rfl (nI_eq (a := qWd T - 1) (b := 2) (by omega) (by omega)) (fun y2 => ?_) (fun y2 => ?_)
        · refine mGo_run (n := 400) ok rfl ?_
          refine mGo_side ok rfl (nI_in (by omega) (by omega)) ?_
          rw [nI_clamp (n := j) (by omega), c1]
          refine mGo_run (n := 400) ok rfl ?_
          refine mGo_ifI ok rfl (nI_eq (a := aK F j) (b := 2) (by omega) (by omega)) (fun k2 => ?_) (fun k2 => ?_)
          · refine mGo_runS 54 (n := 400) ok rfl ?_
            exact rest none true ⟨fun _ _ => Or.inl k2, fun _ => rfl⟩
          · refine mGo_run (n := 400) ok rfl ?_
            refine mGo_side ok rfl (nI_in (by omega) (by omega)) ?_
            rw [nI_clamp (n := j) (by omega), c1]
            refine mGo_run (n := 400) ok rfl ?_
            refine mGo_ifI ok rfl (nI_eq (a := aK F j) (b := 3) (by omega) (by omega)) (fun k3 => ?_) (fun k3 => ?_)
            · refine mGo_runS 54 (n := 400) ok rfl ?_
              exact rest none true ⟨fun _ _ => Or.inr k3, fun _ => rfl⟩
            · refine mGo_runS 54 (n := 400) ok rfl ?_
              exact rest none false ⟨fun z => (by cases z), fun z => (by rcases z (by omega) with y | y <;> omega)⟩
        · refine mGo_runS 54 (n := 400) ok rfl ?_
          exact rest none true ⟨fun _ z => by omega, fun _ => rfl⟩
  · rw [if_neg hF]
    refine mGo_callP ok rfl (by omega) (m_isFormula0 (d := d) m1.1 h4 h40 (fun z => hF ((i_in (by omega)).mpr z))) ?_
    refine mGo_if ok rfl (fun z => ?_) (fun z => ?_)
    · refine mGo_run (n := 400) ok rfl ?_
      exact mGo_ret ok rfl trivial (⟨rfl, rfl, (fin r1).1, (fin r1).2.1, (fin r1).2.2.1, m1, (fin r1).2.2.2⟩)
    · exact absurd rfl z
end T
