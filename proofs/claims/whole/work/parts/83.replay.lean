/-! replay, both sides -/
abbrev aPs : Type := Nat → Int64 × Int64
def RP (F : aF) (man : Nat) (W : Nat → Int64) : Nat → Nat → Nat → aPs → Int32 × Bool × Nat × aPs
  | 0, _, k, ps => (nI k, false, k, ps)
  | m + 1, i, k, ps => if (aPl F k man ps (W i).toInt32 (W (i + 1)).toInt32).2.1 = true then (nI (aPl F k man ps (W i).toInt32 (W (i + 1)).toInt32).2.2.1 + 1000, true, (aPl F k man ps (W i).toInt32 (W (i + 1)).toInt32).2.2)
    else if (aPl F k man ps (W i).toInt32 (W (i + 1)).toInt32).1 < 0 then (nI (aPl F k man ps (W i).toInt32 (W (i + 1)).toInt32).2.2.1, false, (aPl F k man ps (W i).toInt32 (W (i + 1)).toInt32).2.2)
    else RP F man W m (i + 2) (aPl F k man ps (W i).toInt32 (W (i + 1)).toInt32).2.2.1 (aPl F k man ps (W i).toInt32 (W (i + 1)).toInt32).2.2.2
/-- the answer of a move says whether it wins -/
theorem aPl_won {F : aF} (hf : fOk F) (k man : Nat) (ps : aPs) (m r : Int32) : ((aPl F k man ps m r).2.1 = true ↔ (aPl F k man ps m r).1 = 1000) ∧ ((aPl F k man ps m r).2.1 = true → ¬ (aPl F k man ps m r).1 < 0) := by
  have hml := mvs_len hf (ps k).1 (ps k).2
  unfold aPl
  rcases mvA_cases (mvs F (ps k).1 (ps k).2) hml m with ⟨e1, e2⟩ | ⟨i, q, rfl, hi, e1⟩
  · rw [e1]; exact ⟨⟨fun h => (by cases h), fun h => absurd (show (-5 : Int32) = 1000 from h) (by decide)⟩, fun h => (by cases h)⟩
  · rw [e1]
    by_cases z : rpN F q = 0
    · simp only [if_pos z]
      by_cases y : k = 20
      · rw [if_pos y]; exact ⟨⟨fun h => (by cases h), fun h => absurd (show (-3 : Int32) = 1000 from h) (by decide)⟩, fun h => (by cases h)⟩
      · rw [if_neg y]; exact ⟨⟨fun _ => rfl, fun _ => rfl⟩, fun _ => (show ¬ (1000 : Int32) < 0 by decide)⟩
    · simp only [if_neg z]
      by_cases x : 0 ≤ r ∧ r < nI (rpN F q)
      · rw [if_neg (fun t => t x)]
        by_cases y : k = 20
        · rw [if_pos y]; exact ⟨⟨fun h => (by cases h), fun h => absurd (show (-3 : Int32) = 1000 from h) (by decide)⟩, fun h => (by cases h)⟩
        · rw [if_neg y]
          have hl2 := mvs_len hf (rpP F man (ps k).1 (ps k).2 q r.toNatClampNeg).1 (rpP F man (ps k).1 (ps k).2 q r.toNatClampNeg).2
          refine ⟨⟨fun h => (by cases h), fun h => ?_⟩, fun h => (by cases h)⟩
          have := (nI_eq (a := (mvs F (rpP F man (ps k).1 (ps k).2 q r.toNatClampNeg).1 (rpP F man (ps k).1 (ps k).2 q r.toNatClampNeg).2).length) (b := 1000) (by omega) (by omega)).mp h
          omega
      · rw [if_pos x]; exact ⟨⟨fun h => (by cases h), fun h => absurd (show (-1 : Int32) = 1000 from h) (by decide)⟩, fun h => (by cases h)⟩
theorem RP_dOk {F : aF} (hf : fOk F) {man : Nat} (W : Nat → Int64) : ∀ m i k ps, dOk F k man ps → dOk F (RP F man W m i k ps).2.2.1 man (RP F man W m i k ps).2.2.2 := by
  intro m
  induction m with
  | zero => intro i k ps h; exact h
  | succ m ih =>
    intro i k ps h
    have h1 := dOk_pl hf h (W i).toInt32 (W (i + 1)).toInt32
    simp only [RP]
    split
    · exact h1
    · split
      · exact h1
      · exact ih _ _ _ h1
/-- replay: the answer, and the dialogue if one begins -/
def qRp (F : aF) (ty : Int32) (n : Nat) (W : Nat → Int64) (f m : Int32) : Int32 × Option (Nat × Bool × Nat × aPs) :=
  if ty = -1 then (-11, none) else if ty ≠ 0 then (-12, none)
  else if ¬ (0 ≤ f ∧ f < nI (aN F)) then (-2, none)
  else if ¬ (qMan m ∧ aK F f.toNatClampNeg ≠ 0) then (-1, none)
  else ((RP F m.toNatClampNeg W (n / 2) 0 0 (fun _ => atP2 F m.toNatClampNeg 0 0 f.toNatClampNeg 0)).1, some (m.toNatClampNeg, (RP F m.toNatClampNeg W (n / 2) 0 0 (fun _ => atP2 F m.toNatClampNeg 0 0 f.toNatClampNeg 0)).2))
theorem RP_congr {F : aF} {man : Nat} {W W2 : Nat → Int64} : ∀ m i k ps, (∀ x, x < i + 2 * m → W x = W2 x) → RP F man W m i k ps = RP F man W2 m i k ps := by
  intro m
  induction m with
  | zero => intro i k ps _; rfl
  | succ m ih =>
    intro i k ps h
    simp only [RP]
    rw [h i (by omega), h (i + 1) (by omega), ih _ _ _ (fun x hx => h x (by omega))]
theorem qRp_congr {F : aF} {ty : Int32} {n : Nat} {W W2 : Nat → Int64} {f m : Int32} (h : ∀ x, x < n → W x = W2 x) : qRp F ty n W f m = qRp F ty n W2 f m := by
  unfold qRp
  rw [RP_congr (W := W) (W2 := W2) _ _ _ _ (fun x hx => h x (by omega))]
theorem dOk_st {F : aF} (hf : fOk F) {mn f : Nat} (hm : mn ≤ 1) (hfn : f < aN F) (k0 : aK F f ≠ 0) : dOk F 0 mn (fun _ => atP2 F mn 0 0 f 0) := ⟨by omega, hm, fun i _ => atP2_und hf hfn k0 und_0 und_0⟩
section T
variable {g : mG} {l : Launch} {d : Nat} {lk : Nat} {ex : mSh} {σ : mHp} {S : aSl} {F : aF}
theorem c_playStored32 (hf : fOk F) (hc : cF σ F) {n man : Nat} {ps : aPs} (hn : n ≤ 40) (hl : σ.1 32 4 = nI n) (hty : σ.1 32 3 = nI 0) (hD : cD σ F true false 0 man ps) (hd : dOk F 0 man ps) : mNR g l (d + 5) 110 [.ref 0, .ref 32] lk ex σ (.int (RP F man (σ.2.1 33) (n / 2) 0 0 ps).1) (fun σ1 => fr 15 21 σ σ1 ∧ cD σ1 F true (RP F man (σ.2.1 33) (n / 2) 0 0 ps).2.1 (RP F man (σ.2.1 33) (n / 2) 0 0 ps).2.2.1 man (RP F man (σ.2.1 33) (n / 2) 0 0 ps).2.2.2) := by
  have ok : mOkP md_X8_playStored := ok_at 110 (by decide) rfl
  refine mC_of (md := md_X8_playStored) rfl (lt_at (by decide)) rfl ?_
  refine mGo_runS 2 (n := 400) ok rfl ?_
  have loop : ∀ m i k ps, i + 2 * m + n % 2 = n → ∀ (τ : mHp) (L3 : Option Value), fr 15 21 σ τ → cD τ F true false k man ps → dOk F k man ps → mGo g l (d + 5) md_X8_playStored (SH lk ex).length (mTot (SH lk ex)) (2, [some (.ref 0), some (.ref 32), some (.int (nI i)), L3], [], SH lk ex, τ) (fun r sp σ1 => r = some (.int (RP F man (σ.2.1 33) m i k ps).1) ∧ sp = SH lk ex ∧ (fr 15 21 σ σ1 ∧ cD σ1 F true (RP F man (σ.2.1 33) m i k ps).2.1 (RP F man (σ.2.1 33) m i k ps).2.2.1 man (RP F man (σ.2.1 33) m i k ps).2.2.2)) := by
    intro m
    induction m with
    | zero =>
      intro i k ps hi τ L3 t1 t2 t3
      have e4 : τ.1 32 4 = nI n := by rw [(t1 32 (by omega)).1]; exact hl
      refine mGo_run (n := 400) ok rfl ?_
      rw [e4, nI_1]
      refine mGo_ifI ok rfl (nI_leI (a := n) (b := i + 1) (by omega) (by omega)) (fun h1 => ?_) (fun h1 => ?_)
      · refine mGo_run (n := 400) ok rfl ?_
        rw [show τ.1 15 3 = nI k from t2.2.2.1]
        exact mGo_ret ok rfl trivial (⟨rfl, rfl, t1, t2⟩)
      · omega
    | succ m ih =>
      intro i k ps hi τ L3 t1 t2 t3
      have e4 : τ.1 32 4 = nI n := by rw [(t1 32 (by omega)).1]; exact hl
      have e3 : τ.1 32 3 = nI 0 := by rw [(t1 32 (by omega)).1]; exact hty
      have eW : τ.2.1 33 = σ.2.1 33 := (t1 33 (by omega)).2.1
      refine mGo_run (n := 400) ok rfl ?_
      rw [e4, nI_1]
      refine mGo_ifI ok rfl (nI_leI (a := n) (b := i + 1) (by omega) (by omega)) (fun h1 => ?_) (fun h1 => ?_)
      · omega
      · refine mGo_run (n := 400) ok rfl ?_
        refine mGo_callP ok rfl (by omega) (c_read32 (d := d) hn e4 (a := i) (t := 0) (by omega) (by omega) e3) ?_
        rw [show rdV 0 (τ.2.1 33 i) (τ.1 35 i) (τ.2.2 34 i) = σ.2.1 33 i by rw [eW]; rfl]
        refine mGo_run (n := 400) ok rfl ?_
        rw [nI_1]
        refine mGo_callP ok rfl (by omega) (c_read32 (d := d) hn e4 (a := i + 1) (t := 0) (by omega) (by omega) e3) ?_
        rw [show rdV 0 (τ.2.1 33 (i + 1)) (τ.1 35 (i + 1)) (τ.2.2 34 (i + 1)) = σ.2.1 33 (i + 1) by rw [eW]; rfl]
        refine mGo_run (n := 400) ok rfl ?_
        refine mGo_callR ok rfl (by omega) (c_advance (d := d) hf (cF_fr t1 (Or.inl (by omega)) hc) t2 t3.1 t3.2.1 (σ.2.1 33 i).toInt32 (σ.2.1 33 (i + 1)).toInt32) (fun τ2 hτ2 => ?_)
        obtain ⟨q1, q2⟩ := hτ2
        have aw := aPl_won hf k man ps (σ.2.1 33 i).toInt32 (σ.2.1 33 (i + 1)).toInt32
        have hd2 := dOk_pl hf t3 (σ.2.1 33 i).toInt32 (σ.2.1 33 (i + 1)).toInt32
        have hpl : τ2.1 15 3 = nI (aPl F k man ps (σ.2.1 33 i).toInt32 (σ.2.1 33 (i + 1)).toInt32).2.2.1 := q2.2.2.1
        simp only [RP]
        refine mGo_run (n := 400) ok rfl ?_
        refine mGo_if ok rfl (fun h2 => ?_) (fun h2 => ?_)
        · have hw := aw.1.mpr h2
          rw [if_pos hw]
          rw [hw] at q2
          refine mGo_run (n := 400) ok rfl ?_
          rw [hpl]
          exact mGo_ret ok rfl trivial (⟨rfl, rfl, t1.trans q1, q2⟩)
        · have hw : ¬ (aPl F k man ps (σ.2.1 33 i).toInt32 (σ.2.1 33 (i + 1)).toInt32).2.1 = true := fun z => h2 (aw.1.mp z)
          rw [if_neg hw]
          have hw2 : (aPl F k man ps (σ.2.1 33 i).toInt32 (σ.2.1 33 (i + 1)).toInt32).2.1 = false := by simpa using hw
          rw [hw2] at q2
          refine mGo_run (n := 400) ok rfl ?_
          refine mGo_if ok rfl (fun h3 => ?_) (fun h3 => ?_)
          · rw [if_neg (Int32.not_lt.mpr h3)]
            refine mGo_runS 2 (n := 400) ok rfl ?_
            rw [show nI i + 2 = nI (i + 2) from nI_add i 2]
            exact ih (i + 2) _ _ (by omega) τ2 _ (t1.trans q1) q2 hd2
          · rw [if_pos (Int32.not_le.mp h3)]
            refine mGo_run (n := 400) ok rfl ?_
            rw [hpl]
            exact mGo_ret ok rfl trivial (⟨rfl, rfl, t1.trans q1, q2⟩)
  exact loop (n / 2) 0 0 ps (by omega) σ none fr.refl hD hd
theorem x_replay32 (hf : fOk F) (hc : cF σ F) (hO : sOk S) (hS : cSl σ S) {bg w : Bool} {k man : Nat} {ps : aPs} (hD : cD σ F bg w k man ps) (f m : Int32) : mNR g l (d + 6) 109 [.ref 0, .int (nI 0), .int f, .int m] lk ex σ (.int (qRp F (S 0).1 (S 0).2 (σ.2.1 33) f m).1) (fun σ1 => fr 15 21 σ σ1 ∧ match (qRp F (S 0).1 (S 0).2 (σ.2.1 33) f m).2 with
    | none => cD σ1 F bg w k man ps
    | some (mn, w1, k1, ps1) => cD σ1 F true w1 k1 mn ps1) := by
  obtain ⟨s1, s2⟩ := hS 0 (by omega)
  obtain ⟨o1, o2⟩ := hO 0 (by omega)
  have s1 : σ.1 32 3 = (S 0).1 := s1
  have s2 : σ.1 32 4 = nI (S 0).2 := s2
  have h40 := hf.2.1
  have ok : mOkP md_X8_replay := ok_at 109 (by decide) rfl
  refine mC_of (md := md_X8_replay) rfl (lt_at (by decide)) rfl ?_
  unfold qRp
  refine mGo_run (n := 400) ok rfl ?_
  refine mGo_callP ok rfl (by omega) (c_slotAt32 (d := d)) ?_
  refine mGo_run (n := 400) ok rfl ?_
  refine mGo_callP ok rfl (by omega) (c_isEmpty32 (d := d)) ?_
  rw [s1]
  by_cases he : (S 0).1 = -1
  · rw [if_pos he, if_pos he]
    refine mGo_if ok rfl (fun h1 => ?_) (fun h1 => ?_)
    · exact absurd h1 (by decide)
    · refine mGo_run (n := 400) ok rfl ?_
      exact mGo_ret ok rfl trivial (⟨rfl, rfl, fr.refl, hD⟩)
  · rw [if_neg he, if_neg he]
    refine mGo_if ok rfl (fun h1 => ?_) (fun h1 => ?_)
    · refine mGo_run (n := 400) ok rfl ?_
      rw [s1]
      refine mGo_if ok rfl (fun h2 => ?_) (fun h2 => ?_)
      · have h2 : (S 0).1 = 0 := h2
        rw [if_neg (fun z => z h2)]
        refine mGo_run (n := 400) ok rfl ?_
        by_cases hF : 0 ≤ f ∧ f < nI (aN F)
        · rw [if_neg (fun z => z hF)]
          obtain ⟨j, hj, rfl⟩ := (i_in (by omega)).mp hF
          rw [nI_clamp (by omega)]
          refine mGo_callP ok rfl (by omega) (c_has1 (d := d) hc.1 h40 hj) ?_
          refine mGo_if ok rfl (fun h3 => ?_) (fun h3 => ?_)
          · exact absurd h3 (by decide)
          · refine mGo_run (n := 400) ok rfl ?_
            refine mGo_callP ok rfl (by omega) (c_isManner (d := d) m) ?_
            have bad : ¬ (qMan m ∧ aK F j ≠ 0) → mGo g l (d + 6) md_X8_replay (SH lk ex).length (mTot (SH lk ex)) (68, [some (.ref 0), some (.int (nI 0)), some (.int (nI j)), some (.int m), some (.ref 32)], [], SH lk ex, σ) (fun r sp σ1 => r = some (.int (if ¬ (qMan m ∧ aK F j ≠ 0) then ((-1 : Int32), (none : Option (Nat × Bool × Nat × aPs))) else ((RP F m.toNatClampNeg (σ.2.1 33) ((S 0).2 / 2) 0 0 (fun _ => atP2 F m.toNatClampNeg 0 0 j 0)).1, some (m.toNatClampNeg, (RP F m.toNatClampNeg (σ.2.1 33) ((S 0).2 / 2) 0 0 (fun _ => atP2 F m.toNatClampNeg 0 0 j 0)).2))).1) ∧ sp = SH lk ex ∧ (fr 15 21 σ σ1 ∧ match (if ¬ (qMan m ∧ aK F j ≠ 0) then ((-1 : Int32), (none : Option (Nat × Bool × Nat × aPs))) else ((RP F m.toNatClampNeg (σ.2.1 33) ((S 0).2 / 2) 0 0 (fun _ => atP2 F m.toNatClampNeg 0 0 j 0)).1, some (m.toNatClampNeg, (RP F m.toNatClampNeg (σ.2.1 33) ((S 0).2 / 2) 0 0 (fun _ => atP2 F m.toNatClampNeg 0 0 j 0)).2))).2 with
                | none => cD σ1 F bg w k man ps
                | some (mn, w1, k1, ps1) => cD σ1 F true w1 k1 mn ps1)) := by
              intro hb
              rw [if_pos hb]
              refine mGo_run (n := 400) ok rfl ?_
              exact mGo_ret ok rfl trivial (⟨rfl, rfl, fr.refl, hD⟩)
            by_cases hq : qMan m
            · rw [if_pos hq]
              refine mGo_if ok rfl (fun h4 => ?_) (fun h4 => ?_)
              · exact absurd h4 (by decide)
              · refine mGo_run (n := 400) ok rfl ?_
                refine mGo_callP ok rfl (by omega) (c_attacksOn (d := d) hf hc hj) ?_
                by_cases k0 : aK F j = 0
                · rw [k0]
                  refine mGo_if ok rfl (fun h5 => ?_) (fun h5 => ?_)
                  · have := bad (fun z => z.2 k0)
                    rw [k0] at this
                    exact this
                  · exact absurd rfl h5
                · rw [if_neg (fun z => z ⟨hq, k0⟩)]
                  obtain ⟨mn, hmn, rfl⟩ := qMan_n hq
                  rw [nI_clamp (by omega)]
                  have ha : 1 ≤ atk (aK F j) := by unfold atk; rw [if_neg k0]; split <;> omega
                  have ha2 := atk_le (aK F j)
                  refine mGo_ifI ok rfl (nI_eq (a := atk (aK F j)) (b := 0) (by omega) (by omega)) (fun h5 => ?_) (fun h5 => ?_)
                  · omega
                  · refine mGo_run (n := 400) ok rfl ?_
                    refine mGo_callV ok rfl (by omega) (c_open (d := d) (r := 0) hf hc hj k0 hmn (by omega)) (fun τ hτ => ?_)
                    obtain ⟨t1, t2⟩ := hτ
                    have ee := (t1 32 (by omega)).1
                    have eW : τ.2.1 33 = σ.2.1 33 := (t1 33 (by omega)).2.1
                    refine mGo_run (n := 400) ok rfl ?_
                    refine mGo_callR ok rfl (by omega) (c_playStored32 (d := d) hf (cF_fr t1 (Or.inl (by omega)) hc) o1 (by rw [ee]; exact s2) (by rw [ee, s1, h2]; rfl) t2 (dOk_st hf hmn hj k0)) (fun τ2 hτ2 => ?_)
                    rw [eW] at hτ2 ⊢
                    refine mGo_run (n := 400) ok rfl ?_
                    exact mGo_ret ok rfl trivial (⟨rfl, rfl, t1.trans hτ2.1, hτ2.2⟩)
            · rw [if_neg hq]
              refine mGo_if ok rfl (fun h4 => ?_) (fun h4 => ?_)
              · exact bad (fun z => hq z.1)
              · exact absurd rfl h4
        · rw [if_pos hF]
          refine mGo_callP ok rfl (by omega) (c_has0 (d := d) hc.1 h40 (fun z => hF ((i_in (by omega)).mpr z))) ?_
          refine mGo_if ok rfl (fun h3 => ?_) (fun h3 => ?_)
          · refine mGo_run (n := 400) ok rfl ?_
            exact mGo_ret ok rfl trivial (⟨rfl, rfl, fr.refl, hD⟩)
          · exact absurd rfl h3
      · have h2 : ¬ (S 0).1 = 0 := h2
        rw [if_pos h2]
        refine mGo_run (n := 400) ok rfl ?_
        exact mGo_ret ok rfl trivial (⟨rfl, rfl, fr.refl, hD⟩)
    · exact absurd rfl h1
theorem c_playStored36 (hf : fOk F) (hc : cF σ F) {n man : Nat} {ps : aPs} (hn : n ≤ 40) (hl : σ.1 36 4 = nI n) (hty : σ.1 36 3 = nI 0) (hD : cD σ F true false 0 man ps) (hd : dOk F 0 man ps) : mNR g l (d + 5) 110 [.ref 0, .ref 36] lk ex σ (.int (RP F man (σ.2.1 37) (n / 2) 0 0 ps).1) (fun σ1 => fr 15 21 σ σ1 ∧ cD σ1 F true (RP F man (σ.2.1 37) (n / 2) 0 0 ps).2.1 (RP F man (σ.2.1 37) (n / 2) 0 0 ps).2.2.1 man (RP F man (σ.2.1 37) (n / 2) 0 0 ps).2.2.2) := by
  have ok : mOkP md_X8_playStored := ok_at 110 (by decide) rfl
  refine mC_of (md := md_X8_playStored) rfl (lt_at (by decide)) rfl ?_
  refine mGo_runS 2 (n := 400) ok rfl ?_
  have loop : ∀ m i k ps, i + 2 * m + n % 2 = n → ∀ (τ : mHp) (L3 : Option Value), fr 15 21 σ τ → cD τ F true false k man ps → dOk F k man ps → mGo g l (d + 5) md_X8_playStored (SH lk ex).length (mTot (SH lk ex)) (2, [some (.ref 0), some (.ref 36), some (.int (nI i)), L3], [], SH lk ex, τ) (fun r sp σ1 => r = some (.int (RP F man (σ.2.1 37) m i k ps).1) ∧ sp = SH lk ex ∧ (fr 15 21 σ σ1 ∧ cD σ1 F true (RP F man (σ.2.1 37) m i k ps).2.1 (RP F man (σ.2.1 37) m i k ps).2.2.1 man (RP F man (σ.2.1 37) m i k ps).2.2.2)) := by
    intro m
    induction m with
    | zero =>
      intro i k ps hi τ L3 t1 t2 t3
      have e4 : τ.1 36 4 = nI n := by rw [(t1 36 (by omega)).1]; exact hl
      refine mGo_run (n := 400) ok rfl ?_
      rw [e4, nI_1]
      refine mGo_ifI ok rfl (nI_leI (a := n) (b := i + 1) (by omega) (by omega)) (fun h1 => ?_) (fun h1 => ?_)
      · refine mGo_run (n := 400) ok rfl ?_
        rw [show τ.1 15 3 = nI k from t2.2.2.1]
        exact mGo_ret ok rfl trivial (⟨rfl, rfl, t1, t2⟩)
      · omega
    | succ m ih =>
      intro i k ps hi τ L3 t1 t2 t3
      have e4 : τ.1 36 4 = nI n := by rw [(t1 36 (by omega)).1]; exact hl
      have e3 : τ.1 36 3 = nI 0 := by rw [(t1 36 (by omega)).1]; exact hty
      have eW : τ.2.1 37 = σ.2.1 37 := (t1 37 (by omega)).2.1
      refine mGo_run (n := 400) ok rfl ?_
      rw [e4, nI_1]
      refine mGo_ifI ok rfl (nI_leI (a := n) (b := i + 1) (by omega) (by omega)) (fun h1 => ?_) (fun h1 => ?_)
      · omega
      · refine mGo_run (n := 400) ok rfl ?_
        refine mGo_callP ok rfl (by omega) (c_read36 (d := d) hn e4 (a := i) (t := 0) (by omega) (by omega) e3) ?_
        rw [show rdV 0 (τ.2.1 37 i) (τ.1 39 i) (τ.2.2 38 i) = σ.2.1 37 i by rw [eW]; rfl]
        refine mGo_run (n := 400) ok rfl ?_
        rw [nI_1]
        refine mGo_callP ok rfl (by omega) (c_read36 (d := d) hn e4 (a := i + 1) (t := 0) (by omega) (by omega) e3) ?_
        rw [show rdV 0 (τ.2.1 37 (i + 1)) (τ.1 39 (i + 1)) (τ.2.2 38 (i + 1)) = σ.2.1 37 (i + 1) by rw [eW]; rfl]
        refine mGo_run (n := 400) ok rfl ?_
        refine mGo_callR ok rfl (by omega) (c_advance (d := d) hf (cF_fr t1 (Or.inl (by omega)) hc) t2 t3.1 t3.2.1 (σ.2.1 37 i).toInt32 (σ.2.1 37 (i + 1)).toInt32) (fun τ2 hτ2 => ?_)
        obtain ⟨q1, q2⟩ := hτ2
        have aw := aPl_won hf k man ps (σ.2.1 37 i).toInt32 (σ.2.1 37 (i + 1)).toInt32
        have hd2 := dOk_pl hf t3 (σ.2.1 37 i).toInt32 (σ.2.1 37 (i + 1)).toInt32
        have hpl : τ2.1 15 3 = nI (aPl F k man ps (σ.2.1 37 i).toInt32 (σ.2.1 37 (i + 1)).toInt32).2.2.1 := q2.2.2.1
        simp only [RP]
        refine mGo_run (n := 400) ok rfl ?_
        refine mGo_if ok rfl (fun h2 => ?_) (fun h2 => ?_)
        · have hw := aw.1.mpr h2
          rw [if_pos hw]
          rw [hw] at q2
          refine mGo_run (n := 400) ok rfl ?_
          rw [hpl]
          exact mGo_ret ok rfl trivial (⟨rfl, rfl, t1.trans q1, q2⟩)
        · have hw : ¬ (aPl F k man ps (σ.2.1 37 i).toInt32 (σ.2.1 37 (i + 1)).toInt32).2.1 = true := fun z => h2 (aw.1.mp z)
          rw [if_neg hw]
          have hw2 : (aPl F k man ps (σ.2.1 37 i).toInt32 (σ.2.1 37 (i + 1)).toInt32).2.1 = false := by simpa using hw
          rw [hw2] at q2
          refine mGo_run (n := 400) ok rfl ?_
          refine mGo_if ok rfl (fun h3 => ?_) (fun h3 => ?_)
          · rw [if_neg (Int32.not_lt.mpr h3)]
            refine mGo_runS 2 (n := 400) ok rfl ?_
            rw [show nI i + 2 = nI (i + 2) from nI_add i 2]
            exact ih (i + 2) _ _ (by omega) τ2 _ (t1.trans q1) q2 hd2
          · rw [if_pos (Int32.not_le.mp h3)]
            refine mGo_run (n := 400) ok rfl ?_
            rw [hpl]
            exact mGo_ret ok rfl trivial (⟨rfl, rfl, t1.trans q1, q2⟩)
  exact loop (n / 2) 0 0 ps (by omega) σ none fr.refl hD hd
theorem x_replay36 (hf : fOk F) (hc : cF σ F) (hO : sOk S) (hS : cSl σ S) {bg w : Bool} {k man : Nat} {ps : aPs} (hD : cD σ F bg w k man ps) (f m : Int32) : mNR g l (d + 6) 109 [.ref 0, .int (nI 1), .int f, .int m] lk ex σ (.int (qRp F (S 1).1 (S 1).2 (σ.2.1 37) f m).1) (fun σ1 => fr 15 21 σ σ1 ∧ match (qRp F (S 1).1 (S 1).2 (σ.2.1 37) f m).2 with
    | none => cD σ1 F bg w k man ps
    | some (mn, w1, k1, ps1) => cD σ1 F true w1 k1 mn ps1) := by
  obtain ⟨s1, s2⟩ := hS 1 (by omega)
  obtain ⟨o1, o2⟩ := hO 1 (by omega)
  have s1 : σ.1 36 3 = (S 1).1 := s1
  have s2 : σ.1 36 4 = nI (S 1).2 := s2
  have h40 := hf.2.1
  have ok : mOkP md_X8_replay := ok_at 109 (by decide) rfl
  refine mC_of (md := md_X8_replay) rfl (lt_at (by decide)) rfl ?_
  unfold qRp
  refine mGo_run (n := 400) ok rfl ?_
  refine mGo_callP ok rfl (by omega) (c_slotAt36 (d := d)) ?_
  refine mGo_run (n := 400) ok rfl ?_
  refine mGo_callP ok rfl (by omega) (c_isEmpty36 (d := d)) ?_
  rw [s1]
  by_cases he : (S 1).1 = -1
  · rw [if_pos he, if_pos he]
    refine mGo_if ok rfl (fun h1 => ?_) (fun h1 => ?_)
    · exact absurd h1 (by decide)
    · refine mGo_run (n := 400) ok rfl ?_
      exact mGo_ret ok rfl trivial (⟨rfl, rfl, fr.refl, hD⟩)
  · rw [if_neg he, if_neg he]
    refine mGo_if ok rfl (fun h1 => ?_) (fun h1 => ?_)
    · refine mGo_run (n := 400) ok rfl ?_
      rw [s1]
      refine mGo_if ok rfl (fun h2 => ?_) (fun h2 => ?_)
      · have h2 : (S 1).1 = 0 := h2
        rw [if_neg (fun z => z h2)]
        refine mGo_run (n := 400) ok rfl ?_
        by_cases hF : 0 ≤ f ∧ f < nI (aN F)
        · rw [if_neg (fun z => z hF)]
          obtain ⟨j, hj, rfl⟩ := (i_in (by omega)).mp hF
          rw [nI_clamp (by omega)]
          refine mGo_callP ok rfl (by omega) (c_has1 (d := d) hc.1 h40 hj) ?_
          refine mGo_if ok rfl (fun h3 => ?_) (fun h3 => ?_)
          · exact absurd h3 (by decide)
          · refine mGo_run (n := 400) ok rfl ?_
            refine mGo_callP ok rfl (by omega) (c_isManner (d := d) m) ?_
            have bad : ¬ (qMan m ∧ aK F j ≠ 0) → mGo g l (d + 6) md_X8_replay (SH lk ex).length (mTot (SH lk ex)) (68, [some (.ref 0), some (.int (nI 1)), some (.int (nI j)), some (.int m), some (.ref 36)], [], SH lk ex, σ) (fun r sp σ1 => r = some (.int (if ¬ (qMan m ∧ aK F j ≠ 0) then ((-1 : Int32), (none : Option (Nat × Bool × Nat × aPs))) else ((RP F m.toNatClampNeg (σ.2.1 37) ((S 1).2 / 2) 0 0 (fun _ => atP2 F m.toNatClampNeg 0 0 j 0)).1, some (m.toNatClampNeg, (RP F m.toNatClampNeg (σ.2.1 37) ((S 1).2 / 2) 0 0 (fun _ => atP2 F m.toNatClampNeg 0 0 j 0)).2))).1) ∧ sp = SH lk ex ∧ (fr 15 21 σ σ1 ∧ match (if ¬ (qMan m ∧ aK F j ≠ 0) then ((-1 : Int32), (none : Option (Nat × Bool × Nat × aPs))) else ((RP F m.toNatClampNeg (σ.2.1 37) ((S 1).2 / 2) 0 0 (fun _ => atP2 F m.toNatClampNeg 0 0 j 0)).1, some (m.toNatClampNeg, (RP F m.toNatClampNeg (σ.2.1 37) ((S 1).2 / 2) 0 0 (fun _ => atP2 F m.toNatClampNeg 0 0 j 0)).2))).2 with
                | none => cD σ1 F bg w k man ps
                | some (mn, w1, k1, ps1) => cD σ1 F true w1 k1 mn ps1)) := by
              intro hb
              rw [if_pos hb]
              refine mGo_run (n := 400) ok rfl ?_
              exact mGo_ret ok rfl trivial (⟨rfl, rfl, fr.refl, hD⟩)
            by_cases hq : qMan m
            · rw [if_pos hq]
              refine mGo_if ok rfl (fun h4 => ?_) (fun h4 => ?_)
              · exact absurd h4 (by decide)
              · refine mGo_run (n := 400) ok rfl ?_
                refine mGo_callP ok rfl (by omega) (c_attacksOn (d := d) hf hc hj) ?_
                by_cases k0 : aK F j = 0
                · rw [k0]
                  refine mGo_if ok rfl (fun h5 => ?_) (fun h5 => ?_)
                  · have := bad (fun z => z.2 k0)
                    rw [k0] at this
                    exact this
                  · exact absurd rfl h5
                · rw [if_neg (fun z => z ⟨hq, k0⟩)]
                  obtain ⟨mn, hmn, rfl⟩ := qMan_n hq
                  rw [nI_clamp (by omega)]
                  have ha : 1 ≤ atk (aK F j) := by unfold atk; rw [if_neg k0]; split <;> omega
                  have ha2 := atk_le (aK F j)
                  refine mGo_ifI ok rfl (nI_eq (a := atk (aK F j)) (b := 0) (by omega) (by omega)) (fun h5 => ?_) (fun h5 => ?_)
                  · omega
                  · refine mGo_run (n := 400) ok rfl ?_
                    refine mGo_callV ok rfl (by omega) (c_open (d := d) (r := 0) hf hc hj k0 hmn (by omega)) (fun τ hτ => ?_)
                    obtain ⟨t1, t2⟩ := hτ
                    have ee := (t1 36 (by omega)).1
                    have eW : τ.2.1 37 = σ.2.1 37 := (t1 37 (by omega)).2.1
                    refine mGo_run (n := 400) ok rfl ?_
                    refine mGo_callR ok rfl (by omega) (c_playStored36 (d := d) hf (cF_fr t1 (Or.inl (by omega)) hc) o1 (by rw [ee]; exact s2) (by rw [ee, s1, h2]; rfl) t2 (dOk_st hf hmn hj k0)) (fun τ2 hτ2 => ?_)
                    rw [eW] at hτ2 ⊢
                    refine mGo_run (n := 400) ok rfl ?_
                    exact mGo_ret ok rfl trivial (⟨rfl, rfl, t1.trans hτ2.1, hτ2.2⟩)
            · rw [if_neg hq]
              refine mGo_if ok rfl (fun h4 => ?_) (fun h4 => ?_)
              · exact bad (fun z => hq z.1)
              · exact absurd rfl h4
        · rw [if_pos hF]
          refine mGo_callP ok rfl (by omega) (c_has0 (d := d) hc.1 h40 (fun z => hF ((i_in (by omega)).mpr z))) ?_
          refine mGo_if ok rfl (fun h3 => ?_) (fun h3 => ?_)
          · refine mGo_run (n := 400) ok rfl ?_
            exact mGo_ret ok rfl trivial (⟨rfl, rfl, fr.refl, hD⟩)
          · exact absurd rfl h3
      · have h2 : ¬ (S 1).1 = 0 := h2
        rw [if_pos h2]
        refine mGo_run (n := 400) ok rfl ?_
        exact mGo_ret ok rfl trivial (⟨rfl, rfl, fr.refl, hD⟩)
    · exact absurd rfl h1
theorem c_playStored40 (hf : fOk F) (hc : cF σ F) {n man : Nat} {ps : aPs} (hn : n ≤ 40) (hl : σ.1 40 4 = nI n) (hty : σ.1 40 3 = nI 0) (hD : cD σ F true false 0 man ps) (hd : dOk F 0 man ps) : mNR g l (d + 5) 110 [.ref 0, .ref 40] lk ex σ (.int (RP F man (σ.2.1 41) (n / 2) 0 0 ps).1) (fun σ1 => fr 15 21 σ σ1 ∧ cD σ1 F true (RP F man (σ.2.1 41) (n / 2) 0 0 ps).2.1 (RP F man (σ.2.1 41) (n / 2) 0 0 ps).2.2.1 man (RP F man (σ.2.1 41) (n / 2) 0 0 ps).2.2.2) := by
  have ok : mOkP md_X8_playStored := ok_at 110 (by decide) rfl
  refine mC_of (md := md_X8_playStored) rfl (lt_at (by decide)) rfl ?_
  refine mGo_runS 2 (n := 400) ok rfl ?_
  have loop : ∀ m i k ps, i + 2 * m + n % 2 = n → ∀ (τ : mHp) (L3 : Option Value), fr 15 21 σ τ → cD τ F true false k man ps → dOk F k man ps → mGo g l (d + 5) md_X8_playStored (SH lk ex).length (mTot (SH lk ex)) (2, [some (.ref 0), some (.ref 40), some (.int (nI i)), L3], [], SH lk ex, τ) (fun r sp σ1 => r = some (.int (RP F man (σ.2.1 41) m i k ps).1) ∧ sp = SH lk ex ∧ (fr 15 21 σ σ1 ∧ cD σ1 F true (RP F man (σ.2.1 41) m i k ps).2.1 (RP F man (σ.2.1 41) m i k ps).2.2.1 man (RP F man (σ.2.1 41) m i k ps).2.2.2)) := by
    intro m
    induction m with
    | zero =>
      intro i k ps hi τ L3 t1 t2 t3
      have e4 : τ.1 40 4 = nI n := by rw [(t1 40 (by omega)).1]; exact hl
      refine mGo_run (n := 400) ok rfl ?_
      rw [e4, nI_1]
      refine mGo_ifI ok rfl (nI_leI (a := n) (b := i + 1) (by omega) (by omega)) (fun h1 => ?_) (fun h1 => ?_)
      · refine mGo_run (n := 400) ok rfl ?_
        rw [show τ.1 15 3 = nI k from t2.2.2.1]
        exact mGo_ret ok rfl trivial (⟨rfl, rfl, t1, t2⟩)
      · omega
    | succ m ih =>
      intro i k ps hi τ L3 t1 t2 t3
      have e4 : τ.1 40 4 = nI n := by rw [(t1 40 (by omega)).1]; exact hl
      have e3 : τ.1 40 3 = nI 0 := by rw [(t1 40 (by omega)).1]; exact hty
      have eW : τ.2.1 41 = σ.2.1 41 := (t1 41 (by omega)).2.1
      refine mGo_run (n := 400) ok rfl ?_
      rw [e4, nI_1]
      refine mGo_ifI ok rfl (nI_leI (a := n) (b := i + 1) (by omega) (by omega)) (fun h1 => ?_) (fun h1 => ?_)
      · omega
      · refine mGo_run (n := 400) ok rfl ?_
        refine mGo_callP ok rfl (by omega) (c_read40 (d := d) hn e4 (a := i) (t := 0) (by omega) (by omega) e3) ?_
        rw [show rdV 0 (τ.2.1 41 i) (τ.1 43 i) (τ.2.2 42 i) = σ.2.1 41 i by rw [eW]; rfl]
        refine mGo_run (n := 400) ok rfl ?_
        rw [nI_1]
        refine mGo_callP ok rfl (by omega) (c_read40 (d := d) hn e4 (a := i + 1) (t := 0) (by omega) (by omega) e3) ?_
        rw [show rdV 0 (τ.2.1 41 (i + 1)) (τ.1 43 (i + 1)) (τ.2.2 42 (i + 1)) = σ.2.1 41 (i + 1) by rw [eW]; rfl]
        refine mGo_run (n := 400) ok rfl ?_
        refine mGo_callR ok rfl (by omega) (c_advance (d := d) hf (cF_fr t1 (Or.inl (by omega)) hc) t2 t3.1 t3.2.1 (σ.2.1 41 i).toInt32 (σ.2.1 41 (i + 1)).toInt32) (fun τ2 hτ2 => ?_)
        obtain ⟨q1, q2⟩ := hτ2
        have aw := aPl_won hf k man ps (σ.2.1 41 i).toInt32 (σ.2.1 41 (i + 1)).toInt32
        have hd2 := dOk_pl hf t3 (σ.2.1 41 i).toInt32 (σ.2.1 41 (i + 1)).toInt32
        have hpl : τ2.1 15 3 = nI (aPl F k man ps (σ.2.1 41 i).toInt32 (σ.2.1 41 (i + 1)).toInt32).2.2.1 := q2.2.2.1
        simp only [RP]
        refine mGo_run (n := 400) ok rfl ?_
        refine mGo_if ok rfl (fun h2 => ?_) (fun h2 => ?_)
        · have hw := aw.1.mpr h2
          rw [if_pos hw]
          rw [hw] at q2
          refine mGo_run (n := 400) ok rfl ?_
          rw [hpl]
          exact mGo_ret ok rfl trivial (⟨rfl, rfl, t1.trans q1, q2⟩)
        · have hw : ¬ (aPl F k man ps (σ.2.1 41 i).toInt32 (σ.2.1 41 (i + 1)).toInt32).2.1 = true := fun z => h2 (aw.1.mp z)
          rw [if_neg hw]
          have hw2 : (aPl F k man ps (σ.2.1 41 i).toInt32 (σ.2.1 41 (i + 1)).toInt32).2.1 = false := by simpa using hw
          rw [hw2] at q2
          refine mGo_run (n := 400) ok rfl ?_
          refine mGo_if ok rfl (fun h3 => ?_) (fun h3 => ?_)
          · rw [if_neg (Int32.not_lt.mpr h3)]
            refine mGo_runS 2 (n := 400) ok rfl ?_
            rw [show nI i + 2 = nI (i + 2) from nI_add i 2]
            exact ih (i + 2) _ _ (by omega) τ2 _ (t1.trans q1) q2 hd2
          · rw [if_pos (Int32.not_le.mp h3)]
            refine mGo_run (n := 400) ok rfl ?_
            rw [hpl]
            exact mGo_ret ok rfl trivial (⟨rfl, rfl, t1.trans q1, q2⟩)
  exact loop (n / 2) 0 0 ps (by omega) σ none fr.refl hD hd
theorem x_replay40 (hf : fOk F) (hc : cF σ F) (hO : sOk S) (hS : cSl σ S) {bg w : Bool} {k man : Nat} {ps : aPs} (hD : cD σ F bg w k man ps) (f m : Int32) : mNR g l (d + 6) 109 [.ref 0, .int (nI 2), .int f, .int m] lk ex σ (.int (qRp F (S 2).1 (S 2).2 (σ.2.1 41) f m).1) (fun σ1 => fr 15 21 σ σ1 ∧ match (qRp F (S 2).1 (S 2).2 (σ.2.1 41) f m).2 with
    | none => cD σ1 F bg w k man ps
    | some (mn, w1, k1, ps1) => cD σ1 F true w1 k1 mn ps1) := by
  obtain ⟨s1, s2⟩ := hS 2 (by omega)
  obtain ⟨o1, o2⟩ := hO 2 (by omega)
  have s1 : σ.1 40 3 = (S 2).1 := s1
  have s2 : σ.1 40 4 = nI (S 2).2 := s2
  have h40 := hf.2.1
  have ok : mOkP md_X8_replay := ok_at 109 (by decide) rfl
  refine mC_of (md := md_X8_replay) rfl (lt_at (by decide)) rfl ?_
  unfold qRp
  refine mGo_run (n := 400) ok rfl ?_
  refine mGo_callP ok rfl (by omega) (c_slotAt40 (d := d)) ?_
  refine mGo_run (n := 400) ok rfl ?_
  refine mGo_callP ok rfl (by omega) (c_isEmpty40 (d := d)) ?_
  rw [s1]
  by_cases he : (S 2).1 = -1
  · rw [if_pos he, if_pos he]
    refine mGo_if ok rfl (fun h1 => ?_) (fun h1 => ?_)
    · exact absurd h1 (by decide)
    · refine mGo_run (n := 400) ok rfl ?_
      exact mGo_ret ok rfl trivial (⟨rfl, rfl, fr.refl, hD⟩)
  · rw [if_neg he, if_neg he]
    refine mGo_if ok rfl (fun h1 => ?_) (fun h1 => ?_)
    · refine mGo_run (n := 400) ok rfl ?_
      rw [s1]
      refine mGo_if ok rfl (fun h2 => ?_) (fun h2 => ?_)
      · have h2 : (S 2).1 = 0 := h2
        rw [if_neg (fun z => z h2)]
        refine mGo_run (n := 400) ok rfl ?_
        by_cases hF : 0 ≤ f ∧ f < nI (aN F)
        · rw [if_neg (fun z => z hF)]
          obtain ⟨j, hj, rfl⟩ := (i_in (by omega)).mp hF
          rw [nI_clamp (by omega)]
          refine mGo_callP ok rfl (by omega) (c_has1 (d := d) hc.1 h40 hj) ?_
          refine mGo_if ok rfl (fun h3 => ?_) (fun h3 => ?_)
          · exact absurd h3 (by decide)
          · refine mGo_run (n := 400) ok rfl ?_
            refine mGo_callP ok rfl (by omega) (c_isManner (d := d) m) ?_
            have bad : ¬ (qMan m ∧ aK F j ≠ 0) → mGo g l (d + 6) md_X8_replay (SH lk ex).length (mTot (SH lk ex)) (68, [some (.ref 0), some (.int (nI 2)), some (.int (nI j)), some (.int m), some (.ref 40)], [], SH lk ex, σ) (fun r sp σ1 => r = some (.int (if ¬ (qMan m ∧ aK F j ≠ 0) then ((-1 : Int32), (none : Option (Nat × Bool × Nat × aPs))) else ((RP F m.toNatClampNeg (σ.2.1 41) ((S 2).2 / 2) 0 0 (fun _ => atP2 F m.toNatClampNeg 0 0 j 0)).1, some (m.toNatClampNeg, (RP F m.toNatClampNeg (σ.2.1 41) ((S 2).2 / 2) 0 0 (fun _ => atP2 F m.toNatClampNeg 0 0 j 0)).2))).1) ∧ sp = SH lk ex ∧ (fr 15 21 σ σ1 ∧ match (if ¬ (qMan m ∧ aK F j ≠ 0) then ((-1 : Int32), (none : Option (Nat × Bool × Nat × aPs))) else ((RP F m.toNatClampNeg (σ.2.1 41) ((S 2).2 / 2) 0 0 (fun _ => atP2 F m.toNatClampNeg 0 0 j 0)).1, some (m.toNatClampNeg, (RP F m.toNatClampNeg (σ.2.1 41) ((S 2).2 / 2) 0 0 (fun _ => atP2 F m.toNatClampNeg 0 0 j 0)).2))).2 with
                | none => cD σ1 F bg w k man ps
                | some (mn, w1, k1, ps1) => cD σ1 F true w1 k1 mn ps1)) := by
              intro hb
              rw [if_pos hb]
              refine mGo_run (n := 400) ok rfl ?_
              exact mGo_ret ok rfl trivial (⟨rfl, rfl, fr.refl, hD⟩)
            by_cases hq : qMan m
            · rw [if_pos hq]
              refine mGo_if ok rfl (fun h4 => ?_) (fun h4 => ?_)
              · exact absurd h4 (by decide)
              · refine mGo_run (n := 400) ok rfl ?_
                refine mGo_callP ok rfl (by omega) (c_attacksOn (d := d) hf hc hj) ?_
                by_cases k0 : aK F j = 0
                · rw [k0]
                  refine mGo_if ok rfl (fun h5 => ?_) (fun h5 => ?_)
                  · have := bad (fun z => z.2 k0)
                    rw [k0] at this
                    exact this
                  · exact absurd rfl h5
                · rw [if_neg (fun z => z ⟨hq, k0⟩)]
                  obtain ⟨mn, hmn, rfl⟩ := qMan_n hq
                  rw [nI_clamp (by omega)]
                  have ha : 1 ≤ atk (aK F j) := by unfold atk; rw [if_neg k0]; split <;> omega
                  have ha2 := atk_le (aK F j)
                  refine mGo_ifI ok rfl (nI_eq (a := atk (aK F j)) (b := 0) (by omega) (by omega)) (fun h5 => ?_) (fun h5 => ?_)
                  · omega
                  · refine mGo_run (n := 400) ok rfl ?_
                    refine mGo_callV ok rfl (by omega) (c_open (d := d) (r := 0) hf hc hj k0 hmn (by omega)) (fun τ hτ => ?_)
                    obtain ⟨t1, t2⟩ := hτ
                    have ee := (t1 40 (by omega)).1
                    have eW : τ.2.1 41 = σ.2.1 41 := (t1 41 (by omega)).2.1
                    refine mGo_run (n := 400) ok rfl ?_
                    refine mGo_callR ok rfl (by omega) (c_playStored40 (d := d) hf (cF_fr t1 (Or.inl (by omega)) hc) o1 (by rw [ee]; exact s2) (by rw [ee, s1, h2]; rfl) t2 (dOk_st hf hmn hj k0)) (fun τ2 hτ2 => ?_)
                    rw [eW] at hτ2 ⊢
                    refine mGo_run (n := 400) ok rfl ?_
                    exact mGo_ret ok rfl trivial (⟨rfl, rfl, t1.trans hτ2.1, hτ2.2⟩)
            · rw [if_neg hq]
              refine mGo_if ok rfl (fun h4 => ?_) (fun h4 => ?_)
              · exact bad (fun z => hq z.1)
              · exact absurd rfl h4
        · rw [if_pos hF]
          refine mGo_callP ok rfl (by omega) (c_has0 (d := d) hc.1 h40 (fun z => hF ((i_in (by omega)).mpr z))) ?_
          refine mGo_if ok rfl (fun h3 => ?_) (fun h3 => ?_)
          · refine mGo_run (n := 400) ok rfl ?_
            exact mGo_ret ok rfl trivial (⟨rfl, rfl, fr.refl, hD⟩)
          · exact absurd rfl h3
      · have h2 : ¬ (S 2).1 = 0 := h2
        rw [if_pos h2]
        refine mGo_run (n := 400) ok rfl ?_
        exact mGo_ret ok rfl trivial (⟨rfl, rfl, fr.refl, hD⟩)
    · exact absurd rfl h1
theorem c_playStored44 (hf : fOk F) (hc : cF σ F) {n man : Nat} {ps : aPs} (hn : n ≤ 40) (hl : σ.1 44 4 = nI n) (hty : σ.1 44 3 = nI 0) (hD : cD σ F true false 0 man ps) (hd : dOk F 0 man ps) : mNR g l (d + 5) 110 [.ref 0, .ref 44] lk ex σ (.int (RP F man (σ.2.1 45) (n / 2) 0 0 ps).1) (fun σ1 => fr 15 21 σ σ1 ∧ cD σ1 F true (RP F man (σ.2.1 45) (n / 2) 0 0 ps).2.1 (RP F man (σ.2.1 45) (n / 2) 0 0 ps).2.2.1 man (RP F man (σ.2.1 45) (n / 2) 0 0 ps).2.2.2) := by
  have ok : mOkP md_X8_playStored := ok_at 110 (by decide) rfl
  refine mC_of (md := md_X8_playStored) rfl (lt_at (by decide)) rfl ?_
  refine mGo_runS 2 (n := 400) ok rfl ?_
  have loop : ∀ m i k ps, i + 2 * m + n % 2 = n → ∀ (τ : mHp) (L3 : Option Value), fr 15 21 σ τ → cD τ F true false k man ps → dOk F k man ps → mGo g l (d + 5) md_X8_playStored (SH lk ex).length (mTot (SH lk ex)) (2, [some (.ref 0), some (.ref 44), some (.int (nI i)), L3], [], SH lk ex, τ) (fun r sp σ1 => r = some (.int (RP F man (σ.2.1 45) m i k ps).1) ∧ sp = SH lk ex ∧ (fr 15 21 σ σ1 ∧ cD σ1 F true (RP F man (σ.2.1 45) m i k ps).2.1 (RP F man (σ.2.1 45) m i k ps).2.2.1 man (RP F man (σ.2.1 45) m i k ps).2.2.2)) := by
    intro m
    induction m with
    | zero =>
      intro i k ps hi τ L3 t1 t2 t3
      have e4 : τ.1 44 4 = nI n := by rw [(t1 44 (by omega)).1]; exact hl
      refine mGo_run (n := 400) ok rfl ?_
      rw [e4, nI_1]
      refine mGo_ifI ok rfl (nI_leI (a := n) (b := i + 1) (by omega) (by omega)) (fun h1 => ?_) (fun h1 => ?_)
      · refine mGo_run (n := 400) ok rfl ?_
        rw [show τ.1 15 3 = nI k from t2.2.2.1]
        exact mGo_ret ok rfl trivial (⟨rfl, rfl, t1, t2⟩)
      · omega
    | succ m ih =>
      intro i k ps hi τ L3 t1 t2 t3
      have e4 : τ.1 44 4 = nI n := by rw [(t1 44 (by omega)).1]; exact hl
      have e3 : τ.1 44 3 = nI 0 := by rw [(t1 44 (by omega)).1]; exact hty
      have eW : τ.2.1 45 = σ.2.1 45 := (t1 45 (by omega)).2.1
      refine mGo_run (n := 400) ok rfl ?_
      rw [e4, nI_1]
      refine mGo_ifI ok rfl (nI_leI (a := n) (b := i + 1) (by omega) (by omega)) (fun h1 => ?_) (fun h1 => ?_)
      · omega
      · refine mGo_run (n := 400) ok rfl ?_
        refine mGo_callP ok rfl (by omega) (c_read44 (d := d) hn e4 (a := i) (t := 0) (by omega) (by omega) e3) ?_
        rw [show rdV 0 (τ.2.1 45 i) (τ.1 47 i) (τ.2.2 46 i) = σ.2.1 45 i by rw [eW]; rfl]
        refine mGo_run (n := 400) ok rfl ?_
        rw [nI_1]
        refine mGo_callP ok rfl (by omega) (c_read44 (d := d) hn e4 (a := i + 1) (t := 0) (by omega) (by omega) e3) ?_
        rw [show rdV 0 (τ.2.1 45 (i + 1)) (τ.1 47 (i + 1)) (τ.2.2 46 (i + 1)) = σ.2.1 45 (i + 1) by rw [eW]; rfl]
        refine mGo_run (n := 400) ok rfl ?_
        refine mGo_callR ok rfl (by omega) (c_advance (d := d) hf (cF_fr t1 (Or.inl (by omega)) hc) t2 t3.1 t3.2.1 (σ.2.1 45 i).toInt32 (σ.2.1 45 (i + 1)).toInt32) (fun τ2 hτ2 => ?_)
        obtain ⟨q1, q2⟩ := hτ2
        have aw := aPl_won hf k man ps (σ.2.1 45 i).toInt32 (σ.2.1 45 (i + 1)).toInt32
        have hd2 := dOk_pl hf t3 (σ.2.1 45 i).toInt32 (σ.2.1 45 (i + 1)).toInt32
        have hpl : τ2.1 15 3 = nI (aPl F k man ps (σ.2.1 45 i).toInt32 (σ.2.1 45 (i + 1)).toInt32).2.2.1 := q2.2.2.1
        simp only [RP]
        refine mGo_run (n := 400) ok rfl ?_
        refine mGo_if ok rfl (fun h2 => ?_) (fun h2 => ?_)
        · have hw := aw.1.mpr h2
          rw [if_pos hw]
          rw [hw] at q2
          refine mGo_run (n := 400) ok rfl ?_
          rw [hpl]
          exact mGo_ret ok rfl trivial (⟨rfl, rfl, t1.trans q1, q2⟩)
        · have hw : ¬ (aPl F k man ps (σ.2.1 45 i).toInt32 (σ.2.1 45 (i + 1)).toInt32).2.1 = true := fun z => h2 (aw.1.mp z)
          rw [if_neg hw]
          have hw2 : (aPl F k man ps (σ.2.1 45 i).toInt32 (σ.2.1 45 (i + 1)).toInt32).2.1 = false := by simpa using hw
          rw [hw2] at q2
          refine mGo_run (n := 400) ok rfl ?_
          refine mGo_if ok rfl (fun h3 => ?_) (fun h3 => ?_)
          · rw [if_neg (Int32.not_lt.mpr h3)]
            refine mGo_runS 2 (n := 400) ok rfl ?_
            rw [show nI i + 2 = nI (i + 2) from nI_add i 2]
            exact ih (i + 2) _ _ (by omega) τ2 _ (t1.trans q1) q2 hd2
          · rw [if_pos (Int32.not_le.mp h3)]
            refine mGo_run (n := 400) ok rfl ?_
            rw [hpl]
            exact mGo_ret ok rfl trivial (⟨rfl, rfl, t1.trans q1, q2⟩)
  exact loop (n / 2) 0 0 ps (by omega) σ none fr.refl hD hd
theorem x_replay44 (hf : fOk F) (hc : cF σ F) (hO : sOk S) (hS : cSl σ S) {bg w : Bool} {k man : Nat} {ps : aPs} (hD : cD σ F bg w k man ps) (f m : Int32) : mNR g l (d + 6) 109 [.ref 0, .int (nI 3), .int f, .int m] lk ex σ (.int (qRp F (S 3).1 (S 3).2 (σ.2.1 45) f m).1) (fun σ1 => fr 15 21 σ σ1 ∧ match (qRp F (S 3).1 (S 3).2 (σ.2.1 45) f m).2 with
    | none => cD σ1 F bg w k man ps
    | some (mn, w1, k1, ps1) => cD σ1 F true w1 k1 mn ps1) := by
  obtain ⟨s1, s2⟩ := hS 3 (by omega)
  obtain ⟨o1, o2⟩ := hO 3 (by omega)
  have s1 : σ.1 44 3 = (S 3).1 := s1
  have s2 : σ.1 44 4 = nI (S 3).2 := s2
  have h40 := hf.2.1
  have ok : mOkP md_X8_replay := ok_at 109 (by decide) rfl
  refine mC_of (md := md_X8_replay) rfl (lt_at (by decide)) rfl ?_
  unfold qRp
  refine mGo_run (n := 400) ok rfl ?_
  refine mGo_callP ok rfl (by omega) (c_slotAt44 (d := d)) ?_
  refine mGo_run (n := 400) ok rfl ?_
  refine mGo_callP ok rfl (by omega) (c_isEmpty44 (d := d)) ?_
  rw [s1]
  by_cases he : (S 3).1 = -1
  · rw [if_pos he, if_pos he]
    refine mGo_if ok rfl (fun h1 => ?_) (fun h1 => ?_)
    · exact absurd h1 (by decide)
    · refine mGo_run (n := 400) ok rfl ?_
      exact mGo_ret ok rfl trivial (⟨rfl, rfl, fr.refl, hD⟩)
  · rw [if_neg he, if_neg he]
    refine mGo_if ok rfl (fun h1 => ?_) (fun h1 => ?_)
    · refine mGo_run (n := 400) ok rfl ?_
      rw [s1]
      refine mGo_if ok rfl (fun h2 => ?_) (fun h2 => ?_)
      · have h2 : (S 3).1 = 0 := h2
        rw [if_neg (fun z => z h2)]
        refine mGo_run (n := 400) ok rfl ?_
        by_cases hF : 0 ≤ f ∧ f < nI (aN F)
        · rw [if_neg (fun z => z hF)]
          obtain ⟨j, hj, rfl⟩ := (i_in (by omega)).mp hF
          rw [nI_clamp (by omega)]
          refine mGo_callP ok rfl (by omega) (c_has1 (d := d) hc.1 h40 hj) ?_
          refine mGo_if ok rfl (fun h3 => ?_) (fun h3 => ?_)
          · exact absurd h3 (by decide)
          · refine mGo_run (n := 400) ok rfl ?_
            refine mGo_callP ok rfl (by omega) (c_isManner (d := d) m) ?_
            have bad : ¬ (qMan m ∧ aK F j ≠ 0) → mGo g l (d + 6) md_X8_replay (SH lk ex).length (mTot (SH lk ex)) (68, [some (.ref 0), some (.int (nI 3)), some (.int (nI j)), some (.int m), some (.ref 44)], [], SH lk ex, σ) (fun r sp σ1 => r = some (.int (if ¬ (qMan m ∧ aK F j ≠ 0) then ((-1 : Int32), (none : Option (Nat × Bool × Nat × aPs))) else ((RP F m.toNatClampNeg (σ.2.1 45) ((S 3).2 / 2) 0 0 (fun _ => atP2 F m.toNatClampNeg 0 0 j 0)).1, some (m.toNatClampNeg, (RP F m.toNatClampNeg (σ.2.1 45) ((S 3).2 / 2) 0 0 (fun _ => atP2 F m.toNatClampNeg 0 0 j 0)).2))).1) ∧ sp = SH lk ex ∧ (fr 15 21 σ σ1 ∧ match (if ¬ (qMan m ∧ aK F j ≠ 0) then ((-1 : Int32), (none : Option (Nat × Bool × Nat × aPs))) else ((RP F m.toNatClampNeg (σ.2.1 45) ((S 3).2 / 2) 0 0 (fun _ => atP2 F m.toNatClampNeg 0 0 j 0)).1, some (m.toNatClampNeg, (RP F m.toNatClampNeg (σ.2.1 45) ((S 3).2 / 2) 0 0 (fun _ => atP2 F m.toNatClampNeg 0 0 j 0)).2))).2 with
                | none => cD σ1 F bg w k man ps
                | some (mn, w1, k1, ps1) => cD σ1 F true w1 k1 mn ps1)) := by
              intro hb
              rw [if_pos hb]
              refine mGo_run (n := 400) ok rfl ?_
              exact mGo_ret ok rfl trivial (⟨rfl, rfl, fr.refl, hD⟩)
            by_cases hq : qMan m
            · rw [if_pos hq]
              refine mGo_if ok rfl (fun h4 => ?_) (fun h4 => ?_)
              · exact absurd h4 (by decide)
              · refine mGo_run (n := 400) ok rfl ?_
                refine mGo_callP ok rfl (by omega) (c_attacksOn (d := d) hf hc hj) ?_
                by_cases k0 : aK F j = 0
                · rw [k0]
                  refine mGo_if ok rfl (fun h5 => ?_) (fun h5 => ?_)
                  · have := bad (fun z => z.2 k0)
                    rw [k0] at this
                    exact this
                  · exact absurd rfl h5
                · rw [if_neg (fun z => z ⟨hq, k0⟩)]
                  obtain ⟨mn, hmn, rfl⟩ := qMan_n hq
                  rw [nI_clamp (by omega)]
                  have ha : 1 ≤ atk (aK F j) := by unfold atk; rw [if_neg k0]; split <;> omega
                  have ha2 := atk_le (aK F j)
                  refine mGo_ifI ok rfl (nI_eq (a := atk (aK F j)) (b := 0) (by omega) (by omega)) (fun h5 => ?_) (fun h5 => ?_)
                  · omega
                  · refine mGo_run (n := 400) ok rfl ?_
                    refine mGo_callV ok rfl (by omega) (c_open (d := d) (r := 0) hf hc hj k0 hmn (by omega)) (fun τ hτ => ?_)
                    obtain ⟨t1, t2⟩ := hτ
                    have ee := (t1 44 (by omega)).1
                    have eW : τ.2.1 45 = σ.2.1 45 := (t1 45 (by omega)).2.1
                    refine mGo_run (n := 400) ok rfl ?_
                    refine mGo_callR ok rfl (by omega) (c_playStored44 (d := d) hf (cF_fr t1 (Or.inl (by omega)) hc) o1 (by rw [ee]; exact s2) (by rw [ee, s1, h2]; rfl) t2 (dOk_st hf hmn hj k0)) (fun τ2 hτ2 => ?_)
                    rw [eW] at hτ2 ⊢
                    refine mGo_run (n := 400) ok rfl ?_
                    exact mGo_ret ok rfl trivial (⟨rfl, rfl, t1.trans hτ2.1, hτ2.2⟩)
            · rw [if_neg hq]
              refine mGo_if ok rfl (fun h4 => ?_) (fun h4 => ?_)
              · exact bad (fun z => hq z.1)
              · exact absurd rfl h4
        · rw [if_pos hF]
          refine mGo_callP ok rfl (by omega) (c_has0 (d := d) hc.1 h40 (fun z => hF ((i_in (by omega)).mpr z))) ?_
          refine mGo_if ok rfl (fun h3 => ?_) (fun h3 => ?_)
          · refine mGo_run (n := 400) ok rfl ?_
            exact mGo_ret ok rfl trivial (⟨rfl, rfl, fr.refl, hD⟩)
          · exact absurd rfl h3
      · have h2 : ¬ (S 3).1 = 0 := h2
        rw [if_pos h2]
        refine mGo_run (n := 400) ok rfl ?_
        exact mGo_ret ok rfl trivial (⟨rfl, rfl, fr.refl, hD⟩)
    · exact absurd rfl h1
theorem x_replay0 {s : Int32} (hs : ¬ ∃ k, k < 4 ∧ s = nI k) (f m : Int32) : mNP g l (d + 6) 109 [.ref 0, .int s, .int f, .int m] lk ex σ (.int (-1)) := by
  have ok : mOkP md_X8_replay := ok_at 109 (by decide) rfl
  refine mC_of (md := md_X8_replay) rfl (lt_at (by decide)) rfl ?_
  refine mGo_run (n := 400) ok rfl ?_
  refine mGo_callP ok rfl (by omega) (c_slotAt0 (d := d) hs) ?_
  refine mGo_run (n := 400) ok rfl ?_
  exact mGo_ret ok rfl trivial (⟨rfl, rfl, rfl⟩)
end T
