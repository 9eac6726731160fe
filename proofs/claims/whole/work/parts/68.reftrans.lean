/-! the reference's translation -/
def frY (σ σ1 : mHp) : Prop := (∀ i, ¬ (48 ≤ i ∧ i < 52) → i ≠ 56 → sm3 σ σ1 i) ∧ fm [0, 4] σ σ1
theorem frY.refl {σ : mHp} : frY σ σ := ⟨fun _ _ _ => ⟨rfl, rfl, rfl⟩, fm.refl⟩
theorem frY.trans {σ σ1 σ2 : mHp} (h1 : frY σ σ1) (h2 : frY σ1 σ2) : frY σ σ2 := ⟨fun i a b => (h1.1 i a b).trans (h2.1 i a b), h1.2.trans h2.2⟩
theorem frY_F {σ σ1 : mHp} (h : fr 48 52 σ σ1) (h2 : fm [0, 4] σ σ1) : frY σ σ1 := ⟨fun i a _ => h i a, h2⟩
theorem frY.W {σ σ1 : mHp} {j : Nat} {v : Int32} (h : frY σ σ1) : frY σ (mWI σ1 56 j v) := ⟨fun c a b => by
  obtain ⟨x, y, z⟩ := h.1 c a b
  refine ⟨?_, y, z⟩
  rw [← x]
  funext w
  rw [WI_at, if_neg (by omega)], h.2.WI (fun z => by omega)⟩
/-- no room any more -/
def mFu (σ : mHp) (F : aF) : Prop := mF σ F ∧ σ.1 48 4 = bI true ∧ fOk F ∧ ∀ j, j < 40 → σ.1 56 j < 0 ∨ ∃ v, v < aN F ∧ σ.1 56 j = nI v
def mSt (σ : mHp) (F : aF) (im : aM) : Prop := mF σ F ∧ σ.1 48 4 = bI false ∧ fOk F ∧ (∀ j, j < 40 → σ.1 56 j = oM (im j)) ∧ ∀ j v, im j = some v → v < aN F
/-- with no room: some formula is answered, and none is made -/
def fQ (lk : Nat) (ex : mSh) (σ : mHp) (F : aF) (r : Option Value) (sp : mSh) (σ1 : mHp) : Prop := sp = SH lk ex ∧ frY σ σ1 ∧ mFu σ1 F ∧ ∃ v, v < aN F ∧ r = some (.int (nI v))
def kQ (lk : Nat) (ex : mSh) (σ : mHp) (F : aF) (im : aM) (o : Option (Nat × aF)) (r : Option Value) (sp : mSh) (σ1 : mHp) : Prop := sp = SH lk ex ∧ frY σ σ1 ∧ match o with
  | none => mFu σ1 F ∧ ∃ v, v < aN F ∧ r = some (.int (nI v))
  | some (v, F1) => r = some (.int (nI v)) ∧ mSt σ1 F1 im ∧ fle F F1 ∧ v < aN F1
def yP (lk : Nat) (ex : mSh) (σ : mHp) (F : aF) (o : Option (Nat × aF × aM)) (r : Option Value) (sp : mSh) (σ1 : mHp) : Prop := sp = SH lk ex ∧ frY σ σ1 ∧ match o with
  | none => ∃ F1, mFu σ1 F1 ∧ fle F F1 ∧ ∃ v, v < aN F1 ∧ r = some (.int (nI v))
  | some (v, F1, im1) => r = some (.int (nI v)) ∧ mSt σ1 F1 im1 ∧ fle F F1 ∧ v < aN F1
theorem mF_Wc {σ : mHp} {F : aF} {i k : Nat} {v : Int32} (h : mF σ F) (hi : 52 ≤ i) : mF (mWI σ i k v) F := by
  refine ⟨by rw [WI_at, if_neg (by omega)]; exact h.1, fun j hj => ?_⟩
  obtain ⟨a, b, c⟩ := h.2 j hj
  exact ⟨by rw [WI_at, if_neg (by omega)]; exact a, by rw [WI_at, if_neg (by omega)]; exact b, by rw [WI_at, if_neg (by omega)]; exact c⟩
theorem mx0 {v : Nat} (h : v < 2 ^ 31) : (if (0 : Int32) < nI v then nI v else 0) = nI v := by
  by_cases z : 0 < v
  · rw [if_pos (show (0 : Int32) < nI v from nI_lt (a := 0) z h)]
  · rw [show v = 0 by omega]; rfl
theorem i0b {x : Int32} (h : x < 0) : (if (0 : Int32) < x then x else 0) = nI 0 := by
  rw [if_neg (fun z => absurd (Int32.lt_trans z h) (by decide))]; rfl
section T
variable {g : mG} {l : Launch} {d : Nat} {lk : Nat} {ex : mSh} {σ : mHp} {F : aF} {im : aM}
theorem m_makeF (h : mFu σ F) {k a b : Nat} (hk : 1 ≤ k ∧ k ≤ 4) (ha : a < aN F) (hb : b < aN F) : mC g l d 120 [.ref 48, .int (nI k), .int (nI a), .int (nI b)] (SH lk ex) σ (fQ lk ex σ F) := by
  obtain ⟨h1, h2, h3, h4⟩ := h
  obtain ⟨j, e, hj⟩ := aMm_full (F := F) k a b
  refine mC_mono (m_make (g := g) (l := l) (d := d) (lk := lk) (ex := ex) h3 h1 h2 hk ha hb) (fun r sp σ1 q => ?_)
  rw [e] at q
  obtain ⟨q1, q2, q3, q4, q5, q6⟩ := q
  exact ⟨q2, frY_F q3 q4, ⟨q5, q6, h3, fun i hi => by rw [(q3 56 (by omega)).1]; exact h4 i hi⟩, j, hj h3.1, q1⟩
theorem m_notF (h : mFu σ F) {a : Nat} (ha : a < aN F) : mC g l (d + 1) 145 [.ref 48, .int (nI a)] (SH lk ex) σ (fQ lk ex σ F) := by
  have ok : mOkP md_X9_not := ok_at 145 (by decide) rfl
  refine mC_of (md := md_X9_not) rfl (lt_at (by decide)) rfl ?_
  refine mGo_run (n := 400) ok rfl ?_
  refine mGo_call ok rfl (by omega) (m_makeF (d := d) (k := 1) (b := 0) h (by omega) ha (by have := h.2.2.1.1; omega)) (fun r sp τ hq => ?_)
  obtain ⟨rfl, q1, q2, v, q3, rfl⟩ := hq
  refine mGo_run (n := 400) ok rfl ?_
  exact mGo_ret ok rfl trivial (⟨rfl, q1, q2, v, q3, rfl⟩)
theorem m_trF (h : mFu σ F) {f : Nat} (hf : f < 40) : mC g l (d + 1) 146 [.ref 48, .int (nI f)] (SH lk ex) σ (fQ lk ex σ F) := by
  have h40 := h.2.2.1.2.1
  have h4 := h.2.2.1.1
  have ok : mOkP md_X9_translate := ok_at 146 (by decide) rfl
  refine mC_of (md := md_X9_translate) rfl (lt_at (by decide)) rfl ?_
  have fin : mGo g l (d + 1) md_X9_translate (SH lk ex).length (mTot (SH lk ex)) (27, [some (.ref 48), some (.int (nI f))], [], SH lk ex, σ) (fQ lk ex σ F) := by
    refine mGo_run (n := 400) ok rfl ?_
    refine mGo_side ok rfl (nI_in (by omega) (by omega)) ?_
    rw [nI_clamp (by omega)]
    refine mGo_run (n := 400) ok rfl ?_
    refine mGo_callP ok rfl (by omega) (c_max (d := d) 0 (σ.1 56 f)) ?_
    refine mGo_run (n := 400) ok rfl ?_
    rcases h.2.2.2 f hf with z | ⟨v, hv, z⟩
    · rw [i0b z]
      exact mGo_ret ok rfl trivial (⟨rfl, frY.refl, h, 0, by omega, rfl⟩)
    · rw [z, mx0 (by omega)]
      exact mGo_ret ok rfl trivial (⟨rfl, frY.refl, h, v, hv, rfl⟩)
  refine mGo_run (n := 400) ok rfl ?_
  refine mGo_side ok rfl (nI_in (by omega) (by omega)) ?_
  rw [nI_clamp (by omega)]
  refine mGo_run (n := 400) ok rfl ?_
  refine mGo_if ok rfl (fun z => ?_) (fun z => ?_)
  · exact fin
  · refine mGo_run (n := 400) ok rfl ?_
    rw [h.2.1]
    refine mGo_if ok rfl (fun z2 => ?_) (fun z2 => ?_)
    · exact absurd z2 (by decide)
    · exact fin
theorem m_mk (h : mSt σ F im) {k a b : Nat} (hk : 1 ≤ k ∧ k ≤ 4) (ha : a < aN F) (hb : b < aN F) (hb1 : k = 1 → b = 0) : mC g l d 120 [.ref 48, .int (nI k), .int (nI a), .int (nI b)] (SH lk ex) σ (kQ lk ex σ F im (mkS F k a b)) := by
  obtain ⟨h1, h2, h3, h4, h5⟩ := h
  obtain ⟨m1, m2, m3⟩ := aMk_ok h3 hk ha hb hb1
  refine mC_mono (m_make (g := g) (l := l) (d := d) (lk := lk) (ex := ex) h3 h1 h2 hk ha hb) (fun r sp σ1 q => ?_)
  rw [aMm_of h3] at q
  obtain ⟨q1, q2, q3, q4, q5, q6⟩ := q
  refine ⟨q2, frY_F q3 q4, ?_⟩
  unfold mkS
  have e56 := (q3 56 (by omega)).1
  cases e : (aMk F k a b).1 with
  | none =>
    rw [e] at q1 q5 q6
    refine ⟨⟨q5, q6, h3, fun j hj => ?_⟩, 0, by have := h3.1; omega, q1⟩
    rw [e56, h4 j hj]
    cases e2 : im j with
    | none => exact Or.inl (by decide)
    | some v => exact Or.inr ⟨v, h5 j v e2, rfl⟩
  | some v =>
    rw [e] at q1 q5 q6
    exact ⟨q1, ⟨q5, q6, m1, fun j hj => by rw [e56]; exact h4 j hj, fun j w hw => Nat.lt_of_lt_of_le (h5 j w hw) m3⟩, aMk_fle F k a b, m2 v e⟩
theorem m_neg (h : mSt σ F im) {a : Nat} (ha : a < aN F) : mC g l (d + 1) 145 [.ref 48, .int (nI a)] (SH lk ex) σ (kQ lk ex σ F im (mkS F 1 a 0)) := by
  have ok : mOkP md_X9_not := ok_at 145 (by decide) rfl
  refine mC_of (md := md_X9_not) rfl (lt_at (by decide)) rfl ?_
  refine mGo_run (n := 400) ok rfl ?_
  refine mGo_call ok rfl (by omega) (m_mk (d := d) (k := 1) (b := 0) h (by omega) ha (by have := h.2.2.1.1; omega) (fun _ => rfl)) (fun r sp τ hq => ?_)
  obtain ⟨rfl, q1, q2⟩ := hq
  cases e : mkS F 1 a 0 with
  | none =>
    rw [e] at q2
    obtain ⟨q2, v, q3, rfl⟩ := q2
    refine mGo_run (n := 400) ok rfl ?_
    exact mGo_ret ok rfl trivial (⟨rfl, q1, q2, v, q3, rfl⟩)
  | some x =>
    obtain ⟨v, F1⟩ := x
    rw [e] at q2
    obtain ⟨rfl, q2⟩ := q2
    refine mGo_run (n := 400) ok rfl ?_
    exact mGo_ret ok rfl trivial (⟨rfl, q1, rfl, q2⟩)
/-- the rest of a translation, once there is no room -/
theorem ft99 {τ : mHp} {F1 : aF} {L : mLs} {v : Nat} (ok : mOkP md_X9_translation) (t : frY σ τ) (h : mFu τ F1) (hl : fle F F1) (hv : v < aN F1) {n0 t0 : Nat} : mGo g l (d + 2) md_X9_translation n0 t0 (99, L, [.int (nI v), .ref 48], SH lk ex, τ) (yP lk ex σ F none) := by
  refine mGo_call ok rfl (by omega) (m_notF (d := d) h hv) (fun r sp τ2 hq => ?_)
  obtain ⟨rfl, q1, q2, v2, q3, rfl⟩ := hq
  refine mGo_run (n := 400) ok rfl ?_
  exact mGo_ret ok rfl trivial (⟨rfl, t.trans q1, F1, q2, hl, v2, q3, rfl⟩)
theorem ft96 {τ : mHp} {F1 : aF} {L : mLs} {v w : Nat} (ok : mOkP md_X9_translation) (t : frY σ τ) (h : mFu τ F1) (hl : fle F F1) (hv : v < aN F1) (hw : w < aN F1) {n0 t0 : Nat} : mGo g l (d + 2) md_X9_translation n0 t0 (96, L, [.int (nI v), .int (nI w), .int (nI 2), .ref 48, .ref 48], SH lk ex, τ) (yP lk ex σ F none) := by
  refine mGo_call ok rfl (by omega) (m_makeF (d := d) (k := 2) h (by omega) hw hv) (fun r sp τ2 hq => ?_)
  obtain ⟨rfl, q1, q2, v2, q3, rfl⟩ := hq
  exact ft99 ok (t.trans q1) q2 hl q3
theorem ft76 {τ : mHp} {F1 : aF} {L3 : Option Value} {f v w : Nat} (ok : mOkP md_X9_translation) (t : frY σ τ) (h : mFu τ F1) (hl : fle F F1) (hf : f < aN F1) (hk2 : 2 ≤ aK F1 f) (hv : v < aN F1) (hw : w < aN F1) {n0 t0 : Nat} : mGo g l (d + 2) md_X9_translation n0 t0 (76, [some (.ref 48), some (.int (nI f)), some (.int (nI w)), L3], [.int (nI v)], SH lk ex, τ) (yP lk ex σ F none) := by
  have h40 := h.2.2.1.2.1
  have hk4 := (h.2.2.1.2.2 f hf).2.1
  obtain ⟨c1, c2, c3⟩ := h.1.2 f hf
  refine mGo_run (n := 400) ok rfl ?_
  refine mGo_side ok rfl (nI_in (by omega) (by omega)) ?_
  rw [nI_clamp (n := f) (by omega), c1]
  refine mGo_run (n := 400) ok rfl ?_
  refine mGo_ifI ok rfl (nI_eq (a := aK F1 f) (b := 3) (by omega) (by omega)) (fun k3 => ?_) (fun k3 => ?_)
  · refine mGo_run (n := 400) ok rfl ?_
    refine mGo_call ok rfl (by omega) (m_notF (d := d) h hv) (fun r sp τ2 hq => ?_)
    obtain ⟨rfl, q1, q2, v2, q3, rfl⟩ := hq
    exact ft96 ok (t.trans q1) q2 hl q3 hw
  · refine mGo_run (n := 400) ok rfl ?_
    refine mGo_side ok rfl (nI_in (by omega) (by omega)) ?_
    rw [nI_clamp (n := f) (by omega), c1]
    refine mGo_run (n := 400) ok rfl ?_
    refine mGo_call ok rfl (by omega) (m_makeF (d := d) (k := aK F1 f) h (by omega) hw hv) (fun r sp τ2 hq => ?_)
    obtain ⟨rfl, q1, q2, v2, q3, rfl⟩ := hq
    refine mGo_run (n := 400) ok rfl ?_
    exact mGo_ret ok rfl trivial (⟨rfl, t.trans q1, F1, q2, hl, v2, q3, rfl⟩)
theorem ft65 {τ : mHp} {F1 : aF} {L2 L3 : Option Value} {f v : Nat} (ok : mOkP md_X9_translation) (t : frY σ τ) (h : mFu τ F1) (hl : fle F F1) (hf : f < aN F1) (hk2 : 2 ≤ aK F1 f) (hv : v < aN F1) {n0 t0 : Nat} : mGo g l (d + 2) md_X9_translation n0 t0 (65, [some (.ref 48), some (.int (nI f)), L2, L3], [.int (nI v)], SH lk ex, τ) (yP lk ex σ F none) := by
  have h40 := h.2.2.1.2.1
  have hB := (h.2.2.1.2.2 f hf).2.2.2.1 hk2
  obtain ⟨c1, c2, c3⟩ := h.1.2 f hf
  refine mGo_run (n := 400) ok rfl ?_
  refine mGo_side ok rfl (nI_in (by omega) (by omega)) ?_
  rw [nI_clamp (n := f) (by omega), c3]
  refine mGo_run (n := 400) ok rfl ?_
  refine mGo_call ok rfl (by omega) (m_trF (d := d) h (f := aB F1 f) (by omega)) (fun r sp τ2 hq => ?_)
  obtain ⟨rfl, q1, q2, v2, q3, rfl⟩ := hq
  exact ft76 ok (t.trans q1) q2 hl hf hk2 q3 hv
theorem ft29 {τ : mHp} {F1 : aF} {L2 L3 : Option Value} {f v : Nat} (ok : mOkP md_X9_translation) (t : frY σ τ) (h : mFu τ F1) (hl : fle F F1) (hf : f < aN F1) (hk1 : 1 ≤ aK F1 f) (hv : v < aN F1) {n0 t0 : Nat} : mGo g l (d + 2) md_X9_translation n0 t0 (29, [some (.ref 48), some (.int (nI f)), L2, L3], [.int (nI v)], SH lk ex, τ) (yP lk ex σ F none) := by
  have h40 := h.2.2.1.2.1
  have hk4 := (h.2.2.1.2.2 f hf).2.1
  obtain ⟨c1, c2, c3⟩ := h.1.2 f hf
  refine mGo_run (n := 400) ok rfl ?_
  refine mGo_side ok rfl (nI_in (by omega) (by omega)) ?_
  rw [nI_clamp (n := f) (by omega), c1]
  refine mGo_run (n := 400) ok rfl ?_
  refine mGo_ifI ok rfl (nI_eq (a := aK F1 f) (b := 1) (by omega) (by omega)) (fun k1 => ?_) (fun k1 => ?_)
  · refine mGo_run (n := 400) ok rfl ?_
    refine mGo_call ok rfl (by omega) (m_notF (d := d) h hv) (fun r sp τ2 hq => ?_)
    obtain ⟨rfl, q1, q2, v2, q3, rfl⟩ := hq
    refine mGo_run (n := 400) ok rfl ?_
    exact mGo_ret ok rfl trivial (⟨rfl, t.trans q1, F1, q2, hl, v2, q3, rfl⟩)
  · refine mGo_run (n := 400) ok rfl ?_
    refine mGo_side ok rfl (nI_in (by omega) (by omega)) ?_
    rw [nI_clamp (n := f) (by omega), c1]
    refine mGo_run (n := 400) ok rfl ?_
    refine mGo_ifI ok rfl (nI_eq (a := aK F1 f) (b := 3) (by omega) (by omega)) (fun k3 => ?_) (fun k3 => ?_)
    · refine mGo_run (n := 400) ok rfl ?_
      refine mGo_call ok rfl (by omega) (m_notF (d := d) h hv) (fun r sp τ2 hq => ?_)
      obtain ⟨rfl, q1, q2, v2, q3, rfl⟩ := hq
      refine mGo_runS 65 (n := 400) ok rfl ?_
      exact ft65 ok (t.trans q1) q2 hl hf (by omega) q3
    · refine mGo_runS 65 (n := 400) ok rfl ?_
      exact ft65 ok t h hl hf (by omega) hv
def mTR (g : mG) (l : Launch) (lk : Nat) (ex : mSh) (n : Nat) : Prop := ∀ (d : Nat) (σ : mHp) (F : aF) (im : aM) (f : Nat), f < n → f < aN F → mSt σ F im → mC g l (d + 2 * n + 4) 146 [.ref 48, .int (nI f)] (SH lk ex) σ (yP lk ex σ F (TR n F im f))
set_option maxHeartbeats 2000000 in
theorem m_translation {n : Nat} (ih : mTR g l lk ex n) {f : Nat} (hfn : f < n + 1) (hfN : f < aN F) (h : mSt σ F im) : mC g l (d + 2 * n + 5) 147 [.ref 48, .int (nI f)] (SH lk ex) σ (yP lk ex σ F (IMf (TR n) F im f)) := by
  have h0 := h
  obtain ⟨hm, hfl, hf, hi, hv⟩ := h0
  obtain ⟨w1, w2, w3, w4, w5, w6⟩ := hf.2.2 f hfN
  have h40 := hf.2.1
  obtain ⟨c1, c2, c3⟩ := hm.2 f hfN
  have ok : mOkP md_X9_translation := ok_at 147 (by decide) rfl
  refine mC_of (md := md_X9_translation) rfl (lt_at (by decide)) rfl ?_
  unfold IMf
  refine mGo_run (n := 400) ok rfl ?_
  refine mGo_side ok rfl (nI_in (by omega) (by omega)) ?_
  rw [nI_clamp (n := f) (by omega), c1]
  refine mGo_ifI ok rfl (nI_eq (a := aK F f) (b := 0) (by omega) (by omega)) (fun k0 => ?_) (fun k0 => ?_)
  · rw [if_pos k0]
    refine mGo_run (n := 400) ok rfl ?_
    refine mGo_call ok rfl (by omega) (m_neg (d := d) h hfN) (fun r sp τ hq => ?_)
    obtain ⟨rfl, q1, q2⟩ := hq
    cases e : mkS F 1 f 0 with
    | none =>
      rw [e] at q2
      obtain ⟨q2, v, q3, rfl⟩ := q2
      refine mGo_run (n := 400) ok rfl ?_
      refine mGo_call ok rfl (by omega) (m_notF (d := d) q2 q3) (fun r sp τ2 hq => ?_)
      obtain ⟨rfl, p1, p2, v2, p3, rfl⟩ := hq
      refine mGo_run (n := 400) ok rfl ?_
      exact mGo_ret ok rfl trivial (⟨rfl, q1.trans p1, F, p2, fle.refl, v2, p3, rfl⟩)
    | some x =>
      obtain ⟨v, F1⟩ := x
      rw [e] at q2
      obtain ⟨rfl, q2, q3, q4⟩ := q2
      simp only [Option.bind_some]
      refine mGo_run (n := 400) ok rfl ?_
      refine mGo_call ok rfl (by omega) (m_neg (d := d) q2 q4) (fun r sp τ2 hq => ?_)
      obtain ⟨rfl, p1, p2⟩ := hq
      cases e2 : mkS F1 1 v 0 with
      | none =>
        rw [e2] at p2
        obtain ⟨p2, v2, p3, rfl⟩ := p2
        refine mGo_run (n := 400) ok rfl ?_
        exact mGo_ret ok rfl trivial (⟨rfl, q1.trans p1, F1, p2, q3, v2, p3, rfl⟩)
      | some y =>
        obtain ⟨v2, F2⟩ := y
        rw [e2] at p2
        obtain ⟨rfl, p2, p3, p4⟩ := p2
        refine mGo_run (n := 400) ok rfl ?_
        exact mGo_ret ok rfl trivial (⟨rfl, q1.trans p1, rfl, p2, q3.trans p3, p4⟩)
  · rw [if_neg k0]
    have hA : aA F f < f := w3 k0
    refine mGo_run (n := 400) ok rfl ?_
    refine mGo_side ok rfl (nI_in (by omega) (by omega)) ?_
    rw [nI_clamp (n := f) (by omega), c2]
    refine mGo_run (n := 400) ok rfl ?_
    refine mGo_call ok rfl (by omega) (ih d σ F im (aA F f) (by omega) (by omega) h) (fun r sp τ hq => ?_)
    obtain ⟨rfl, q1, q2⟩ := hq
    cases e : TR n F im (aA F f) with
    | none =>
      rw [e] at q2
      obtain ⟨F1, a1, a2, v, a3, rfl⟩ := q2
      have := ft29 (g := g) (l := l) (d := d + 2 * n + 3) (lk := lk) (ex := ex) (L2 := none) (L3 := none) (f := f) (n0 := (SH lk ex).length) (t0 := mTot (SH lk ex)) ok q1 a1 a2 (Nat.lt_of_lt_of_le hfN a2.1) (by rw [(a2.2 f hfN).1]; omega) a3
      exact this
    | some x =>
      obtain ⟨va, F1, im1⟩ := x
      rw [e] at q2
      obtain ⟨rfl, t1, a4, a5⟩ := q2
      obtain ⟨a1, a2, a3, a6, a7⟩ := id t1
      have hfN1 : f < aN F1 := Nat.lt_of_lt_of_le hfN a4.1
      have d1 : τ.1 49 f = nI (aK F f) ∧ τ.1 51 f = nI (aB F f) := by
        obtain ⟨x1, x2, x3⟩ := a1.2 f hfN1
        rw [(a4.2 f hfN).1] at x1
        rw [(a4.2 f hfN).2.2] at x3
        exact ⟨x1, x3⟩
      simp only [Option.bind_some]
      refine mGo_run (n := 400) ok rfl ?_
      refine mGo_side ok rfl (nI_in (by omega) (by omega)) ?_
      rw [nI_clamp (n := f) (by omega), d1.1]
      refine mGo_run (n := 400) ok rfl ?_
      refine mGo_ifI ok rfl (nI_eq (a := aK F f) (b := 1) (by omega) (by omega)) (fun k1 => ?_) (fun k1 => ?_)
      · rw [if_pos k1]
        refine mGo_run (n := 400) ok rfl ?_
        refine mGo_call ok rfl (by omega) (m_neg (d := d) t1 a5) (fun r sp τ2 hq => ?_)
        obtain ⟨rfl, p1, p2⟩ := hq
        cases e2 : mkS F1 1 va 0 with
        | none =>
          rw [e2] at p2
          obtain ⟨p2, v2, p3, rfl⟩ := p2
          refine mGo_run (n := 400) ok rfl ?_
          exact mGo_ret ok rfl trivial (⟨rfl, q1.trans p1, F1, p2, a4, v2, p3, rfl⟩)
        | some y =>
          obtain ⟨v2, F2⟩ := y
          rw [e2] at p2
          obtain ⟨rfl, p2, p3, p4⟩ := p2
          refine mGo_run (n := 400) ok rfl ?_
          exact mGo_ret ok rfl trivial (⟨rfl, q1.trans p1, rfl, p2, a4.trans p3, p4⟩)
      · rw [if_neg k1]
        have hB : aB F f < f := w4 (by omega)
        refine mGo_run (n := 400) ok rfl ?_
        refine mGo_side ok rfl (nI_in (by omega) (by omega)) ?_
        rw [nI_clamp (n := f) (by omega), d1.1]
        refine mGo_run (n := 400) ok rfl ?_
        refine mGo_ifI ok rfl (nI_eq (a := aK F f) (b := 3) (by omega) (by omega)) (fun k3 => ?_) (fun k3 => ?_)
        · rw [if_pos k3]
          refine mGo_run (n := 400) ok rfl ?_
          refine mGo_call ok rfl (by omega) (m_neg (d := d) t1 a5) (fun r sp τ2 hq => ?_)
          obtain ⟨rfl, p1, p2⟩ := hq
          cases e2 : mkS F1 1 va 0 with
          | none =>
            rw [e2] at p2
            obtain ⟨p2, v2, p3, rfl⟩ := p2
            refine mGo_runS 65 (n := 400) ok rfl ?_
            have := ft65 (g := g) (l := l) (d := d + 2 * n + 3) (lk := lk) (ex := ex) (L2 := some (.int (nI va))) (L3 := none) (f := f) (n0 := (SH lk ex).length) (t0 := mTot (SH lk ex)) ok (q1.trans p1) p2 a4 hfN1 (by rw [(a4.2 f hfN).1]; omega) p3
            exact this
          | some y =>
            obtain ⟨v2, F2⟩ := y
            rw [e2] at p2
            obtain ⟨rfl, t2, b4, b5⟩ := p2
            have f4 := a4.trans b4
            have hfN2 : f < aN F2 := Nat.lt_of_lt_of_le hfN f4.1
            have d2 : τ2.1 49 f = nI (aK F f) ∧ τ2.1 51 f = nI (aB F f) := by
              obtain ⟨x1, x2, x3⟩ := t2.1.2 f hfN2
              rw [(f4.2 f hfN).1] at x1
              rw [(f4.2 f hfN).2.2] at x3
              exact ⟨x1, x3⟩
            simp only [Option.bind_some]
            refine mGo_run (n := 400) ok rfl ?_
            refine mGo_side ok rfl (nI_in (by omega) (by omega)) ?_
            rw [nI_clamp (n := f) (by omega), d2.2]
            refine mGo_run (n := 400) ok rfl ?_
            refine mGo_call ok rfl (by omega) (ih d τ2 F2 im1 (aB F f) (by omega) (by omega) t2) (fun r sp τ3 hq => ?_)
            obtain ⟨rfl, u1, u2⟩ := hq
            cases e3 : TR n F2 im1 (aB F f) with
            | none =>
              rw [e3] at u2
              obtain ⟨F3, g1, g2, v3, g3, rfl⟩ := u2
              have := ft76 (g := g) (l := l) (d := d + 2 * n + 3) (lk := lk) (ex := ex) (L3 := none) (f := f) (w := v2) (n0 := (SH lk ex).length) (t0 := mTot (SH lk ex)) ok ((q1.trans p1).trans u1) g1 (f4.trans g2) (Nat.lt_of_lt_of_le hfN2 g2.1) (by rw [((f4.trans g2).2 f hfN).1]; omega) g3 (Nat.lt_of_lt_of_le b5 g2.1)
              exact this
            | some y3 =>
              obtain ⟨v3, F3, im3⟩ := y3
              rw [e3] at u2
              obtain ⟨rfl, t3, g4, g5⟩ := u2
              have f5 := f4.trans g4
              have hfN3 : f < aN F3 := Nat.lt_of_lt_of_le hfN f5.1
              have d3 : τ3.1 49 f = nI (aK F f) := by
                obtain ⟨x1, x2, x3⟩ := t3.1.2 f hfN3
                rw [(f5.2 f hfN).1] at x1
                exact x1
              simp only [Option.bind_some]
              refine mGo_run (n := 400) ok rfl ?_
              refine mGo_side ok rfl (nI_in (by omega) (by omega)) ?_
              rw [nI_clamp (n := f) (by omega), d3]
              refine mGo_run (n := 400) ok rfl ?_
              refine mGo_ifI ok rfl (nI_eq (a := aK F f) (b := 3) (by omega) (by omega)) (fun z3 => ?_) (fun z3 => ?_)
              · refine mGo_run (n := 400) ok rfl ?_
                refine mGo_call ok rfl (by omega) (m_neg (d := d) t3 g5) (fun r sp τ4 hq => ?_)
                obtain ⟨rfl, x1, x2⟩ := hq
                cases e4 : mkS F3 1 v3 0 with
                | none =>
                  rw [e4] at x2
                  obtain ⟨x2, v4, x3, rfl⟩ := x2
                  have := ft96 (g := g) (l := l) (d := d + 2 * n + 3) (lk := lk) (ex := ex) (L := [some (.ref 48), some (.int (nI f)), some (.int (nI v2)), some (.int (nI v3))]) (n0 := (SH lk ex).length) (t0 := mTot (SH lk ex)) ok (((q1.trans p1).trans u1).trans x1) x2 f5 x3 (Nat.lt_of_lt_of_le b5 g4.1)
                  exact this
                | some y4 =>
                  obtain ⟨v4, F4⟩ := y4
                  rw [e4] at x2
                  obtain ⟨rfl, t4, i4, i5⟩ := x2
                  simp only [Option.bind_some]
                  refine mGo_call ok rfl (by omega) (m_mk (d := d) (k := 2) t4 (by omega) (Nat.lt_of_lt_of_le b5 (g4.trans i4).1) i5 (fun z => by omega)) (fun r sp τ5 hq => ?_)
                  obtain ⟨rfl, j1, j2⟩ := hq
                  cases e5 : mkS F4 2 v2 v4 with
                  | none =>
                    rw [e5] at j2
                    obtain ⟨j2, v5, j3, rfl⟩ := j2
                    have := ft99 (g := g) (l := l) (d := d + 2 * n + 3) (lk := lk) (ex := ex) (L := [some (.ref 48), some (.int (nI f)), some (.int (nI v2)), some (.int (nI v3))]) (n0 := (SH lk ex).length) (t0 := mTot (SH lk ex)) ok ((((q1.trans p1).trans u1).trans x1).trans j1) j2 (f5.trans i4) j3
                    exact this
                  | some y5 =>
                    obtain ⟨v5, F5⟩ := y5
                    rw [e5] at j2
                    obtain ⟨rfl, t5, j6, j7⟩ := j2
                    simp only [Option.bind_some]
                    refine mGo_call ok rfl (by omega) (m_neg (d := d) t5 j7) (fun r sp τ6 hq => ?_)
                    obtain ⟨rfl, o1, o2⟩ := hq
                    cases e6 : mkS F5 1 v5 0 with
                    | none =>
                      rw [e6] at o2
                      obtain ⟨o2, v6, o3, rfl⟩ := o2
                      refine mGo_run (n := 400) ok rfl ?_
                      exact mGo_ret ok rfl trivial (⟨rfl, ((((q1.trans p1).trans u1).trans x1).trans j1).trans o1, F5, o2, (f5.trans i4).trans j6, v6, o3, rfl⟩)
                    | some y6 =>
                      obtain ⟨v6, F6⟩ := y6
                      rw [e6] at o2
                      obtain ⟨rfl, t6, o6, o7⟩ := o2
                      refine mGo_run (n := 400) ok rfl ?_
                      exact mGo_ret ok rfl trivial (⟨rfl, ((((q1.trans p1).trans u1).trans x1).trans j1).trans o1, rfl, t6, ((f5.trans i4).trans j6).trans o6, o7⟩)
              · exact absurd k3 z3
        · rw [if_neg k3]
          refine mGo_run (n := 400) ok rfl ?_
          refine mGo_side ok rfl (nI_in (by omega) (by omega)) ?_
          rw [nI_clamp (n := f) (by omega), d1.2]
          refine mGo_run (n := 400) ok rfl ?_
          refine mGo_call ok rfl (by omega) (ih d τ F1 im1 (aB F f) (by omega) (by omega) t1) (fun r sp τ3 hq => ?_)
          obtain ⟨rfl, u1, u2⟩ := hq
          cases e3 : TR n F1 im1 (aB F f) with
          | none =>
            rw [e3] at u2
            obtain ⟨F3, g1, g2, v3, g3, rfl⟩ := u2
            have := ft76 (g := g) (l := l) (d := d + 2 * n + 3) (lk := lk) (ex := ex) (L3 := none) (f := f) (w := va) (n0 := (SH lk ex).length) (t0 := mTot (SH lk ex)) ok (q1.trans u1) g1 (a4.trans g2) (Nat.lt_of_lt_of_le hfN1 g2.1) (by rw [((a4.trans g2).2 f hfN).1]; omega) g3 (Nat.lt_of_lt_of_le a5 g2.1)
            exact this
          | some y3 =>
            obtain ⟨v3, F3, im3⟩ := y3
            rw [e3] at u2
            obtain ⟨rfl, t3, g4, g5⟩ := u2
            have f5 := a4.trans g4
            have hfN3 : f < aN F3 := Nat.lt_of_lt_of_le hfN f5.1
            have d3 : τ3.1 49 f = nI (aK F f) := by
              obtain ⟨x1, x2, x3⟩ := t3.1.2 f hfN3
              rw [(f5.2 f hfN).1] at x1
              exact x1
            simp only [Option.bind_some]
            refine mGo_run (n := 400) ok rfl ?_
            refine mGo_side ok rfl (nI_in (by omega) (by omega)) ?_
            rw [nI_clamp (n := f) (by omega), d3]
            refine mGo_run (n := 400) ok rfl ?_
            refine mGo_ifI ok rfl (nI_eq (a := aK F f) (b := 3) (by omega) (by omega)) (fun z3 => ?_) (fun z3 => ?_)
            · exact absurd z3 k3
            · refine mGo_run (n := 400) ok rfl ?_
              refine mGo_side ok rfl (nI_in (by omega) (by omega)) ?_
              rw [nI_clamp (n := f) (by omega), d3]
              refine mGo_run (n := 400) ok rfl ?_
              refine mGo_call ok rfl (by omega) (m_mk (d := d) (k := aK F f) t3 (by omega) (Nat.lt_of_lt_of_le a5 g4.1) g5 (fun z => by omega)) (fun r sp τ5 hq => ?_)
              obtain ⟨rfl, j1, j2⟩ := hq
              cases e5 : mkS F3 (aK F f) va v3 with
              | none =>
                rw [e5] at j2
                obtain ⟨j2, v5, j3, rfl⟩ := j2
                refine mGo_run (n := 400) ok rfl ?_
                exact mGo_ret ok rfl trivial (⟨rfl, (q1.trans u1).trans j1, F3, j2, f5, v5, j3, rfl⟩)
              | some y5 =>
                obtain ⟨v5, F5⟩ := y5
                rw [e5] at j2
                obtain ⟨rfl, t5, j6, j7⟩ := j2
                refine mGo_run (n := 400) ok rfl ?_
                exact mGo_ret ok rfl trivial (⟨rfl, (q1.trans u1).trans j1, rfl, t5, f5.trans j6, j7⟩)
theorem m_translate (n : Nat) : mTR g l lk ex n := by
  induction n with
  | zero => intro d σ F im f h; omega
  | succ n ih =>
    intro d σ F im f hfn hfN h
    have h0 := h
    obtain ⟨hm, hfl, hf, hi, hv⟩ := h0
    have h40 := hf.2.1
    have ok : mOkP md_X9_translate := ok_at 146 (by decide) rfl
    refine mC_of (md := md_X9_translate) rfl (lt_at (by decide)) rfl ?_
    refine mGo_run (n := 400) ok rfl ?_
    refine mGo_side ok rfl (nI_in (by omega) (by omega)) ?_
    rw [nI_clamp (n := f) (by omega), hi f (by omega)]
    have e0 : TR (n + 1) F im f = (match im f with
      | some v => some (v, F, im)
      | none => (IMf (TR n) F im f).bind (fun x => some (x.1, x.2.1, fun j => if j = f then some x.1 else x.2.2 j))) := rfl
    rw [e0]
    cases e : im f with
    | some v =>
      have hvn := hv f v e
      refine mGo_if ok rfl (fun z => ?_) (fun z => ?_)
      · clear z
        refine mGo_run (n := 400) ok rfl ?_
        refine mGo_side ok rfl (nI_in (by omega) (by omega)) ?_
        rw [nI_clamp (n := f) (by omega), hi f (by omega)]
        rw [e]
        refine mGo_run (n := 400) ok rfl ?_
        refine mGo_callP ok rfl (by omega) (c_max (d := d) 0 (nI v)) ?_
        rw [mx0 (by omega)]
        refine mGo_run (n := 400) ok rfl ?_
        exact mGo_ret ok rfl trivial (⟨rfl, frY.refl, rfl, h, fle.refl, hvn⟩)
      · exact absurd (nI_pos' (by omega)) z
    | none =>
      refine mGo_if ok rfl (fun z => ?_) (fun z => ?_)
      · exact absurd z (by decide)
      · clear z
        refine mGo_run (n := 400) ok rfl ?_
        rw [hfl]
        refine mGo_if ok rfl (fun z => ?_) (fun z => ?_)
        · clear z
          refine mGo_run (n := 400) ok rfl ?_
          refine mGo_call ok rfl (by omega) (m_translation (d := d) ih hfn hfN h) (fun r sp τ hq => ?_)
          obtain ⟨rfl, q1, q2⟩ := hq
          cases e2 : IMf (TR n) F im f with
          | none =>
            rw [e2] at q2
            obtain ⟨F1, a1, a2, v, a3, rfl⟩ := q2
            have := a1.2.2.1.2.1
            refine mGo_run (n := 400) ok rfl ?_
            refine mGo_side ok rfl (nI_in (by omega) (by omega)) ?_
            rw [nI_clamp (by omega)]
            refine mGo_run (n := 400) ok rfl ?_
            refine mGo_side ok rfl (nI_in (by omega) (by omega)) ?_
            rw [nI_clamp (n := f) (by omega), (show (mWI τ 56 f (nI v)).1 56 f = nI v by rw [WI_at, if_pos ⟨rfl, rfl⟩])]
            refine mGo_run (n := 400) ok rfl ?_
            refine mGo_callP ok rfl (by omega) (c_max (d := d) 0 (nI v)) ?_
            rw [mx0 (by omega)]
            refine mGo_run (n := 400) ok rfl ?_
            refine mGo_ret ok rfl trivial ⟨rfl, q1.W, F1, ⟨mF_Wc a1.1 (by omega), by rw [WI_at, if_neg (by omega)]; exact a1.2.1, a1.2.2.1, fun j hj => ?_⟩, a2, v, a3, rfl⟩
            rw [WI_at]
            by_cases hjf : j = f
            · rw [if_pos ⟨rfl, hjf⟩]; exact Or.inr ⟨v, a3, rfl⟩
            · rw [if_neg (fun z => hjf z.2)]; exact a1.2.2.2 j hj
          | some x =>
            obtain ⟨v, F1, im1⟩ := x
            rw [e2] at q2
            obtain ⟨rfl, t1, a4, a5⟩ := q2
            obtain ⟨a1, a2, a3, a6, a7⟩ := t1
            have := a3.2.1
            refine mGo_run (n := 400) ok rfl ?_
            refine mGo_side ok rfl (nI_in (by omega) (by omega)) ?_
            rw [nI_clamp (by omega)]
            refine mGo_run (n := 400) ok rfl ?_
            refine mGo_side ok rfl (nI_in (by omega) (by omega)) ?_
            rw [nI_clamp (n := f) (by omega), (show (mWI τ 56 f (nI v)).1 56 f = nI v by rw [WI_at, if_pos ⟨rfl, rfl⟩])]
            refine mGo_run (n := 400) ok rfl ?_
            refine mGo_callP ok rfl (by omega) (c_max (d := d) 0 (nI v)) ?_
            rw [mx0 (by omega)]
            refine mGo_run (n := 400) ok rfl ?_
            refine mGo_ret ok rfl trivial ⟨rfl, q1.W, rfl, ⟨mF_Wc a1 (by omega), by rw [WI_at, if_neg (by omega)]; exact a2, a3, fun j hj => ?_, fun j w hw => ?_⟩, a4, a5⟩
            · rw [WI_at]
              by_cases hjf : j = f
              · rw [if_pos ⟨rfl, hjf⟩]; simp only [if_pos hjf]; rfl
              · rw [if_neg (fun z => hjf z.2)]; simp only [if_neg hjf]; exact a6 j hj
            · by_cases hjf : j = f
              · simp only [if_pos hjf] at hw; cases hw; exact a5
              · simp only [if_neg hjf] at hw; exact a7 j w hw
        · exact absurd rfl z
end T
