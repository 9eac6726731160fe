/-! moves stay when formulas are added -/
def und (c : Int64) (n : Nat) : Prop := ∀ j, n ≤ j → tb c j = false
theorem und_or {a b : Int64} {n : Nat} (ha : und a n) (hb : und b n) : und (a ||| b) n := fun j hj => by rw [tb_or, ha j hj, hb j hj]; rfl
theorem und_bit {i n : Nat} (h : i < n) (hi : i < 64) : und (bit i) n := fun j hj => by rw [tb_bit hi]; exact decide_eq_false (by omega)
theorem und_0 {n : Nat} : und 0 n := fun j _ => tb_zero j
theorem und_le {c : Int64} {n m : Nat} (h : und c n) (hm : n ≤ m) : und c m := fun j hj => h j (by omega)
def fle (F F1 : aF) : Prop := aN F ≤ aN F1 ∧ ∀ j, j < aN F → aK F1 j = aK F j ∧ aA F1 j = aA F j ∧ aB F1 j = aB F j
theorem fle.refl {F : aF} : fle F F := ⟨Nat.le_refl _, fun _ _ => ⟨rfl, rfl, rfl⟩⟩
theorem fle.trans {F F1 F2 : aF} (h1 : fle F F1) (h2 : fle F1 F2) : fle F F2 := ⟨Nat.le_trans h1.1 h2.1, fun j hj => by
  obtain ⟨a, b, c⟩ := h1.2 j hj
  obtain ⟨x, y, z⟩ := h2.2 j (by have := h1.1; omega)
  exact ⟨x.trans a, y.trans b, z.trans c⟩⟩
theorem aMk_fle (F : aF) (k a b : Nat) : fle F (aMk F k a b).2 := by
  unfold aMk
  cases fF F k a b with
  | some j => exact fle.refl
  | none =>
    by_cases h : aN F < 40
    · simp only [if_pos h]
      refine ⟨by simp only [aN_mk]; omega, fun j hj => ?_⟩
      simp only [aK_mk, aA_mk, aB_mk, up, if_neg (show ¬ j = aN F by omega), and_self]
    · simp only [if_neg h]
      exact fle.refl
theorem clM_split (c o : Int64) (b : Nat) : ∀ a k, clM c o k (a + b) = clM c o k a ++ clM c o (k + a) b := by
  intro a
  induction a with
  | zero => intro k; simp [clM]
  | succ a ih =>
    intro k
    rw [show a + 1 + b = (a + b) + 1 by omega]
    simp only [clM]
    rw [ih (k + 1), List.append_assoc, show k + 1 + a = k + (a + 1) by omega]
theorem atM_split (F : aF) (c : Int64) (b : Nat) : ∀ a k, atM F c k (a + b) = atM F c k a ++ atM F c (k + a) b := by
  intro a
  induction a with
  | zero => intro k; simp [atM]
  | succ a ih =>
    intro k
    rw [show a + 1 + b = (a + b) + 1 by omega]
    simp only [atM]
    rw [ih (k + 1), List.append_assoc, show k + 1 + a = k + (a + 1) by omega]
theorem atM_congr {F F1 : aF} {c : Int64} (h : fle F F1) : ∀ m k, k + m ≤ aN F → atM F1 c k m = atM F c k m := by
  intro m
  induction m with
  | zero => intro k _; rfl
  | succ m ih =>
    intro k hk
    obtain ⟨a, b, e⟩ := h.2 k (by omega)
    simp only [atM, atK]
    rw [ih (k + 1) (by omega), a, b]
theorem mvs_fle {F F1 : aF} (hf : fOk F) (h : fle F F1) {c o : Int64} (hc : und c (aN F)) (ho : und o (aN F)) : mvs F1 c o = mvs F c o := by
  have h4 := hf.1
  have hl := h.1
  unfold mvs
  rw [show aN F1 = aN F + (aN F1 - aN F) by omega, clM_split, clM_nil (aN F1 - aN F) (0 + aN F) (fun j hj => ho j (by omega)), List.append_nil]
  rw [show aN F + (aN F1 - aN F) - 4 = (aN F - 4) + (aN F1 - aN F) by omega, atM_split, atM_nil (aN F1 - aN F) (4 + (aN F - 4)) (fun j hj => hc j (by omega)), List.append_nil, atM_congr h _ _ (by omega)]
theorem atP2_und {F : aF} (hf : fOk F) {man f r : Nat} {c o : Int64} (hfn : f < aN F) (k0 : aK F f ≠ 0) (hc : und c (aN F)) (ho : und o (aN F)) : und (atP2 F man c o f r).1 (aN F) ∧ und (atP2 F man c o f r).2 (aN F) := by
  obtain ⟨w1, w2, w3, w4, w5, w6⟩ := hf.2.2 f hfn
  have hn := hf.2.1
  have hA := w3 k0
  have bA : und (bit (aA F f)) (aN F) := und_bit (by omega) (by omega)
  have bB : 2 ≤ aK F f → und (bit (aB F f)) (aN F) := fun z => by have := w4 z; exact und_bit (by omega) (by omega)
  have hd : und (if aK F f = 2 then (if r = 0 then bit (aA F f) else bit (aB F f)) else if aK F f = 3 then bit (aA F f) ||| bit (aB F f) else if aK F f = 4 then bit (aB F f) else 0) (aN F) := by
    by_cases e2 : aK F f = 2
    · rw [if_pos e2]
      by_cases er : r = 0
      · rw [if_pos er]; exact bA
      · rw [if_neg er]; exact bB (by omega)
    · rw [if_neg e2]
      by_cases e3 : aK F f = 3
      · rw [if_pos e3]; exact und_or bA (bB (by omega))
      · rw [if_neg e3]
        by_cases e4 : aK F f = 4
        · rw [if_pos e4]; exact bB (by omega)
        · rw [if_neg e4]; exact und_0
  refine ⟨?_, ?_⟩
  · simp only [atP2]
    refine und_or hc ?_
    by_cases e : aK F f = 1 ∨ aK F f = 4
    · rw [if_pos e]; exact bA
    · rw [if_neg e]; exact und_0
  · simp only [atP2]
    by_cases e : man = 1
    · rw [if_pos e]; exact und_or ho hd
    · rw [if_neg e]; exact hd
theorem rpP_und {F : aF} (hf : fOk F) {man r : Nat} {q : Nat × Nat} {c o : Int64} (hq : mvOk F q) (hr : r < rpN F q) (hc : und c (aN F)) (ho : und o (aN F)) : und (rpP F man c o q r).1 (aN F) ∧ und (rpP F man c o q r).2 (aN F) := by
  obtain ⟨o1, o2, o3⟩ := hq
  obtain ⟨w1, w2, w3, w4, w5, w6⟩ := hf.2.2 q.2 o1
  have hn := hf.2.1
  unfold rpP
  by_cases e : q.1 = 0
  · rw [if_pos e]
    exact atP2_und hf o1 (fun z => by rw [rpN, if_pos e, z] at hr; exact absurd hr (by simp [atk])) hc ho
  · rw [if_neg e]
    obtain ⟨k0, k2⟩ := o3 e
    have hA := w3 k0
    have bA : und (bit (aA F q.2)) (aN F) := und_bit (by omega) (by omega)
    have bB : 2 ≤ aK F q.2 → und (bit (aB F q.2)) (aN F) := fun z => by have := w4 z; exact und_bit (by omega) (by omega)
    by_cases e2 : q.1 = 2
    · rw [if_pos e2]; exact ⟨und_or hc bA, ho⟩
    · rw [if_neg e2]
      by_cases e3 : q.1 = 3
      · rw [if_pos e3]; exact ⟨und_or hc (bB (by have := k2.mp (Or.inr e3); omega)), ho⟩
      · rw [if_neg e3]
        by_cases k3 : aK F q.2 = 3
        · rw [if_pos k3]
          refine ⟨und_or hc ?_, ho⟩
          by_cases er : r = 0
          · rw [if_pos er]; exact bA
          · rw [if_neg er]; exact bB (by omega)
        · rw [if_neg k3]
          by_cases er : r < atk (aK F (aA F q.2))
          · rw [if_pos er]
            exact atP2_und hf (by omega) (fun z => by rw [z] at er; exact absurd er (by simp [atk])) hc ho
          · rw [if_neg er]
            refine ⟨und_or hc (bB ?_), ho⟩
            rw [rpN, if_neg e] at hr
            by_cases k1 : aK F q.2 = 1
            · rw [if_pos k1] at hr; exact absurd hr er
            · omega
/-- a dialogue over formulas -/
def dOk (F : aF) (k man : Nat) (ps : Nat → Int64 × Int64) : Prop := k ≤ 20 ∧ man ≤ 1 ∧ ∀ i, i ≤ k → und (ps i).1 (aN F) ∧ und (ps i).2 (aN F)
theorem dOk_fle {F F1 : aF} {k man : Nat} {ps : Nat → Int64 × Int64} (h : fle F F1) (hd : dOk F k man ps) : dOk F1 k man ps := ⟨hd.1, hd.2.1, fun i hi => ⟨und_le (hd.2.2 i hi).1 h.1, und_le (hd.2.2 i hi).2 h.1⟩⟩
theorem dOk_0 (F : aF) : dOk F 0 0 (fun _ => (0, 0)) := ⟨by omega, by omega, fun _ _ => ⟨und_0, und_0⟩⟩
theorem cD_fle {σ : mHp} {F F1 : aF} {bg w : Bool} {k man : Nat} {ps : Nat → Int64 × Int64} (hf : fOk F) (h : fle F F1) (hd : dOk F k man ps) (hD : cD σ F bg w k man ps) : cD σ F1 bg w k man ps := by
  obtain ⟨d1, d2, d3, d4⟩ := hD
  refine ⟨d1, d2, d3, fun z => ?_⟩
  obtain ⟨f1, f2, f3, f4, f5⟩ := d4 z
  obtain ⟨u1, u2⟩ := hd.2.2 k (Nat.le_refl _)
  exact ⟨f1, f2, f3, f4, by rw [mvs_fle hf h u1 u2]; exact f5⟩
theorem dOk_beg {F : aF} (hf : fOk F) {f m r : Int32} {p : Nat × Int64 × Int64} (h : (qBeg F f m r).2 = some p) : dOk F 0 p.1 (fun _ => p.2) := by
  have hn := hf.2.1
  unfold qBeg at h
  by_cases h1 : 0 ≤ f ∧ f < nI (aN F)
  · rw [if_neg (fun z => z h1)] at h
    by_cases h2 : qMan m ∧ 0 ≤ r ∧ r < nI (atk (aK F f.toNatClampNeg))
    · rw [if_neg (fun z => z h2)] at h
      obtain ⟨j, hj, rfl⟩ := (i_in (by omega)).mp h1
      obtain ⟨mn, hmn, rfl⟩ := qMan_n h2.1
      rw [nI_clamp (n := j) (by omega), nI_clamp (n := mn) (by omega)] at h
      rw [nI_clamp (n := j) (by omega)] at h2
      have ha := atk_le (aK F j)
      obtain ⟨rn, hrn, rfl⟩ := (i_in (n := atk (aK F j)) (by omega)).mp h2.2
      cases h
      exact ⟨by omega, by simpa using hmn, fun _ _ => atP2_und hf hj (fun z => by rw [z] at hrn; exact absurd hrn (by simp [atk])) und_0 und_0⟩
    · rw [if_pos h2] at h; cases h
  · rw [if_pos h1] at h; cases h
theorem dOk_pl {F : aF} (hf : fOk F) {k man : Nat} {ps : Nat → Int64 × Int64} (hd : dOk F k man ps) (m r : Int32) : dOk F (aPl F k man ps m r).2.2.1 man (aPl F k man ps m r).2.2.2 := by
  obtain ⟨u1, u2⟩ := hd.2.2 k (Nat.le_refl _)
  have hk := hd.1
  have add : ∀ p : Int64 × Int64, und p.1 (aN F) → und p.2 (aN F) → k ≠ 20 → dOk F (k + 1) man (upP ps (k + 1) p) := by
    intro p h1 h2 h3
    refine ⟨by omega, hd.2.1, fun i hi => ?_⟩
    by_cases z : i = k + 1
    · simp only [upP, if_pos z]; exact ⟨h1, h2⟩
    · simp only [upP, if_neg z]; exact hd.2.2 i (by omega)
  have hml := mvs_len hf (ps k).1 (ps k).2
  unfold aPl
  rcases mvA_cases (mvs F (ps k).1 (ps k).2) hml m with ⟨e1, e2⟩ | ⟨i, q, rfl, hi, e1⟩
  · rw [e1]; exact hd
  · rw [e1]
    have ho := mvs_at hf hi
    have hr3 := rpN_le F q
    by_cases z : rpN F q = 0
    · simp only [if_pos z]
      by_cases y : k = 20
      · rw [if_pos y]; exact hd
      · rw [if_neg y]; exact add _ u1 u2 y
    · simp only [if_neg z]
      by_cases x : 0 ≤ r ∧ r < nI (rpN F q)
      · rw [if_neg (fun t => t x)]
        by_cases y : k = 20
        · rw [if_pos y]; exact hd
        · rw [if_neg y]
          obtain ⟨rn, hrn, rfl⟩ := (i_in (n := rpN F q) (by omega)).mp x
          rw [nI_clamp (by omega)]
          obtain ⟨v1, v2⟩ := rpP_und hf (man := man) ho hrn u1 u2
          exact add _ v1 v2 y
      · rw [if_pos x]; exact hd
theorem dOk_play {F : aF} (hf : fOk F) {bg w : Bool} {k man : Nat} {ps : Nat → Int64 × Int64} (hd : dOk F k man ps) (m r : Int32) : dOk F (qPlay F bg w k man ps m r).2.2.1 man (qPlay F bg w k man ps m r).2.2.2 := by
  unfold qPlay
  by_cases h : (bg && !w) = true
  · rw [if_pos h]; exact dOk_pl hf hd m r
  · rw [if_neg h]; exact hd
theorem dOk_back {F : aF} {k man : Nat} {ps : Nat → Int64 × Int64} (hd : dOk F k man ps) : dOk F (k - 1) man ps := ⟨by have := hd.1; omega, hd.2.1, fun i hi => hd.2.2 i (by omega)⟩
section T
variable {g : mG} {l : Launch} {d : Nat} {lk : Nat} {ex : mSh} {σ : mHp} {F : aF}
/-- the four atoms alone -/
def f4 (F : aF) : aF := (4, F.2)
theorem f4_ok (hf : fOk F) : fOk (f4 F) := ⟨Nat.le_refl _, by show 4 ≤ 40; omega, fun j hj => hf.2.2 j (by have := hf.1; have : j < 4 := hj; omega)⟩
theorem x_reset (hf : fOk F) (hc : cF σ F) : mNR g l (d + 1) 76 [.ref 0] lk ex σ (.int (nI (aN F))) (fun σ1 => σ1 = mWI (mWI (mWI (mWI σ 1 6 4) 15 4 0) 15 5 0) 15 3 0) := by
  have ok : mOkP md_X8_reset := ok_at 76 (by decide) rfl
  refine mC_of (md := md_X8_reset) rfl (lt_at (by decide)) rfl ?_
  refine mGo_run (n := 400) ok rfl ?_
  rw [hc.1]
  refine mGo_callV ok rfl (by omega) (c_shrinkTo (d := d) (k := 4) hc.1 hf.2.1 (Nat.le_refl _) hf.1) (fun σ1 hσ1 => ?_)
  refine mGo_run (n := 400) ok rfl ?_
  refine mGo_callV ok rfl (by omega) (c_drop (d := d)) (fun σ2 hσ2 => ?_)
  refine mGo_run (n := 400) ok rfl ?_
  exact mGo_ret ok rfl trivial (⟨rfl, rfl, by rw [hσ2, hσ1]; rfl⟩)
theorem y_reset (hm : mF σ F) : mNR g l d 122 [.ref 48] lk ex σ (.int (nI (aN F))) (fun σ1 => σ1 = mWI (mWI σ 48 0 4) 48 24 0) := by
  have ok : mOkP md_X9_reset := ok_at 122 (by decide) rfl
  refine mC_of (md := md_X9_reset) rfl (lt_at (by decide)) rfl ?_
  refine mGo_run (n := 400) ok rfl ?_
  rw [hm.1]
  refine mGo_side ok rfl (Or.inl rfl) ?_
  refine mGo_run (n := 400) ok rfl ?_
  exact mGo_ret ok rfl trivial (⟨rfl, rfl, rfl⟩)
end T
