/-! formulas asked for: both sides -/
/-- the number of a formula, if it is one -/
def vF (F : aF) (f : Int32) : Option Nat := if 0 ≤ f ∧ f < nI (aN F) then some f.toNatClampNeg else none
theorem vF_some {F : aF} (hn : aN F ≤ 40) {f : Int32} {j : Nat} (h : vF F f = some j) : j < aN F ∧ f = nI j := by
  unfold vF at h
  by_cases hc : 0 ≤ f ∧ f < nI (aN F)
  · rw [if_pos hc] at h
    cases h
    obtain ⟨i, hi, rfl⟩ := (i_in (by omega)).mp hc
    rw [nI_clamp (by omega)]
    exact ⟨hi, rfl⟩
  · rw [if_neg hc] at h; cases h
theorem vF_none {F : aF} (hn : aN F ≤ 40) {f : Int32} (h : vF F f = none) : ¬ ∃ j, j < aN F ∧ f = nI j := by
  intro hx
  unfold vF at h
  rw [if_pos ((i_in (by omega)).mpr hx)] at h
  cases h
/-- a function on numbers by its step -/
def rcA {α : Type} (step : (Nat → α) → Nat → α) (z : α) : Nat → Nat → α
  | 0, _ => z
  | k + 1, j => step (rcA step z k) j
theorem rc_uniq {α : Type} {step : (Nat → α) → Nat → α} {z : α} {n : Nat} (hloc : ∀ (f g : Nat → α) (j : Nat), j < n → (∀ i, i < j → f i = g i) → step f j = step g j) {f : Nat → α} (hf : ∀ j, j < n → f j = step f j) : ∀ (j : Nat), j < n → ∀ k, j < k → rcA step z k j = f j := by
  intro j
  induction j using Nat.strongRecOn with
  | _ j ih =>
    intro hj k hk
    cases k with
    | zero => omega
    | succ k =>
      rw [hf j hj]
      exact hloc _ _ j hj (fun i hi => ih i hi (by omega) k (by omega))
/-- the same, as far as the steps have come -/
theorem rc_next {α : Type} {step : (Nat → α) → Nat → α} {z : α} {n : Nat} (hloc : ∀ (f g : Nat → α) (j : Nat), j < n → (∀ i, i < j → f i = g i) → step f j = step g j) {f : Nat → α} {j : Nat} (hj : j < n) (h : ∀ i, i < j → f i = rcA step z (i + 1) i) : step f j = rcA step z (j + 1) j := by
  show step f j = step (rcA step z j) j
  refine hloc _ _ j hj (fun i hi => ?_)
  rw [h i hi]
  have key : ∀ (i : Nat), i < n → ∀ k k2, i < k → i < k2 → rcA step z k i = rcA step z k2 i := by
    intro i
    induction i using Nat.strongRecOn with
    | _ i ih =>
      intro hi k k2 h1 h2
      cases k with
      | zero => omega
      | succ k => cases k2 with
        | zero => omega
        | succ k2 => exact hloc _ _ i hi (fun x hx => ih x hx (by omega) k k2 (by omega) (by omega))
  exact key i (by omega) _ _ (by omega) hi
def fSz (F : aF) (j : Nat) : Int32 := rcA (szR F) 0 (j + 1) j
def fTb (F : aF) (j : Nat) : Int32 := rcA (tbR F) 0 (j + 1) j
def fSb (F : aF) (j : Nat) : Int64 := rcA (sbR F) 0 (j + 1) j
theorem szL {F : aF} (hf : fOk F) : ∀ (f g : Nat → Int32) (j : Nat), j < aN F → (∀ i, i < j → f i = g i) → szR F f j = szR F g j := by
  intro f g j hj h
  obtain ⟨w1, w2, w3, w4, w5, w6⟩ := hf.2.2 j hj
  unfold szR
  by_cases k0 : aK F j = 0
  · simp [k0]
  · by_cases k1 : aK F j = 1
    · simp [k1, h _ (w3 k0)]
    · simp [k0, k1, h _ (w3 k0), h _ (w4 (by omega))]
theorem tbL {F : aF} (hf : fOk F) : ∀ (f g : Nat → Int32) (j : Nat), j < aN F → (∀ i, i < j → f i = g i) → tbR F f j = tbR F g j := by
  intro f g j hj h
  obtain ⟨w1, w2, w3, w4, w5, w6⟩ := hf.2.2 j hj
  unfold tbR
  by_cases k0 : aK F j = 0
  · simp [k0]
  · by_cases k1 : aK F j = 1
    · simp [k1, h _ (w3 k0)]
    · simp [k0, k1, h _ (w3 k0), h _ (w4 (by omega))]
theorem sbL {F : aF} (hf : fOk F) : ∀ (f g : Nat → Int64) (j : Nat), j < aN F → (∀ i, i < j → f i = g i) → sbR F f j = sbR F g j := by
  intro f g j hj h
  obtain ⟨w1, w2, w3, w4, w5, w6⟩ := hf.2.2 j hj
  unfold sbR
  by_cases k0 : aK F j = 0
  · simp [k0]
  · by_cases k1 : aK F j = 1
    · simp [k1, h _ (w3 k0)]
    · simp [k0, k1, h _ (w3 k0), h _ (w4 (by omega))]
theorem cS_at {σ : mHp} {F : aF} (hf : fOk F) (hs : cS σ F) {j : Nat} (hj : j < aN F) : σ.1 5 j = fSz F j ∧ σ.1 6 j = fTb F j ∧ σ.2.1 7 j = fSb F j :=
  ⟨(rc_uniq (szL hf) (fun i hi => (hs i hi).1) j hj (j + 1) (by omega)).symm, (rc_uniq (tbL hf) (fun i hi => (hs i hi).2.1) j hj (j + 1) (by omega)).symm, (rc_uniq (sbL hf) (fun i hi => (hs i hi).2.2) j hj (j + 1) (by omega)).symm⟩
/-- what the questions about formulas answer -/
def qKind (F : aF) (f : Int32) : Int32 := match vF F f with
  | none => -2
  | some j => nI (aK F j)
def qPart (F : aF) (f w : Int32) : Int32 := match vF F f with
  | none => -2
  | some j => if w = 0 then (if aK F j = 0 then -5 else nI (aA F j)) else if w = 1 then (if aK F j < 2 then -5 else nI (aB F j)) else -1
def qSize (F : aF) (f : Int32) : Int32 := match vF F f with
  | none => -2
  | some j => fSz F j
def qSub (F : aF) (f : Int32) : Int64 := match vF F f with
  | none => -9223372036854775808
  | some j => fSb F j
def qTab (F : aF) (f : Int32) : Int32 := match vF F f with
  | none => -2
  | some j => fTb F j
def qEqv (F : aF) (f h : Int32) : Int32 := match vF F f, vF F h with
  | some i, some j => if fTb F i = fTb F j then 1 else 0
  | _, _ => -2
def qNeg (F : aF) (f : Int32) : Int32 × aF := match vF F f with
  | none => (-2, F)
  | some j => (oR (aMk F 1 j 0).1, (aMk F 1 j 0).2)
def qCom (F : aF) (k f h : Int32) : Int32 × aF := if 2 ≤ k ∧ k ≤ 4 then (match vF F f, vF F h with
  | some i, some j => (oR (aMk F k.toNatClampNeg i j).1, (aMk F k.toNatClampNeg i j).2)
  | _, _ => (-2, F)) else (-1, F)
section T
variable {g : mG} {l : Launch} {d : Nat} {lk : Nat} {ex : mSh} {σ : mHp} {F : aF}
theorem x_kind (hf : fOk F) (hc : cF σ F) (f : Int32) : mNP g l (d + 1) 83 [.ref 0, .int f] lk ex σ (.int (qKind F f)) := by
  have ok : mOkP md_X8_kind := ok_at 83 (by decide) rfl
  refine mC_of (md := md_X8_kind) rfl (lt_at (by decide)) rfl ?_
  unfold qKind
  refine mGo_run (n := 400) ok rfl ?_
  cases hv : vF F f with
  | none =>
    refine mGo_callP ok rfl (by omega) (c_has0 (d := d) hc.1 hf.2.1 (vF_none hf.2.1 hv)) ?_
    refine mGo_run (n := 400) ok rfl ?_
    refine mGo_if ok rfl (fun h => ?_) (fun h => ?_)
    · refine mGo_run (n := 400) ok rfl ?_
      exact mGo_ret ok rfl trivial (⟨rfl, rfl, rfl⟩)
    · exact absurd rfl h
  | some j =>
    obtain ⟨hj, rfl⟩ := vF_some hf.2.1 hv
    refine mGo_callP ok rfl (by omega) (c_has1 (d := d) hc.1 hf.2.1 hj) ?_
    refine mGo_run (n := 400) ok rfl ?_
    refine mGo_if ok rfl (fun h => ?_) (fun h => ?_)
    · exact absurd h (by decide)
    · refine mGo_run (n := 400) ok rfl ?_
      refine mGo_callP ok rfl (by omega) (c_kindOf (d := d) hf.2.1 hc hj) ?_
      refine mGo_run (n := 400) ok rfl ?_
      exact mGo_ret ok rfl trivial (⟨rfl, rfl, rfl⟩)
theorem x_part (hf : fOk F) (hc : cF σ F) (f w : Int32) : mNP g l (d + 1) 84 [.ref 0, .int f, .int w] lk ex σ (.int (qPart F f w)) := by
  have ok : mOkP md_X8_part := ok_at 84 (by decide) rfl
  refine mC_of (md := md_X8_part) rfl (lt_at (by decide)) rfl ?_
  unfold qPart
  refine mGo_run (n := 400) ok rfl ?_
  cases hv : vF F f with
  | none =>
    refine mGo_callP ok rfl (by omega) (c_has0 (d := d) hc.1 hf.2.1 (vF_none hf.2.1 hv)) ?_
    refine mGo_run (n := 400) ok rfl ?_
    refine mGo_if ok rfl (fun h => ?_) (fun h => ?_)
    · refine mGo_run (n := 400) ok rfl ?_
      exact mGo_ret ok rfl trivial (⟨rfl, rfl, rfl⟩)
    · exact absurd rfl h
  | some j =>
    obtain ⟨hj, rfl⟩ := vF_some hf.2.1 hv
    obtain ⟨w1, w2, w3, w4, w5, w6⟩ := hf.2.2 j hj
    have hn := hf.2.1
    have tail : ∀ x y : Int32, (if x = -1 then (-5 : Int32) else x) = y → mGo g l (d + 1) md_X8_part (SH lk ex).length (mTot (SH lk ex)) (48, [some (.ref 0), some (.int (nI j)), some (.int w), none], [.int x], SH lk ex, σ) (fun r sp σ1 => r = some (.int y) ∧ sp = SH lk ex ∧ σ1 = σ) := by
      intro x y hy
      refine mGo_run (n := 400) ok rfl ?_
      refine mGo_if ok rfl (fun h => ?_) (fun h => ?_)
      · refine mGo_run (n := 400) ok rfl ?_
        rw [if_pos h] at hy
        exact mGo_ret ok rfl trivial (⟨by rw [← hy], rfl, rfl⟩)
      · refine mGo_run (n := 400) ok rfl ?_
        rw [if_neg h] at hy
        exact mGo_ret ok rfl trivial (⟨by rw [← hy], rfl, rfl⟩)
    have neg : ∀ {x : Nat}, x < 40 → ¬ nI x = -1 := fun {x} hx z => by
      have := congrArg Int32.toInt z
      rw [nI_toInt (by omega)] at this
      have : (x : Int) = -1 := this
      omega
    refine mGo_callP ok rfl (by omega) (c_has1 (d := d) hc.1 hf.2.1 hj) ?_
    refine mGo_run (n := 400) ok rfl ?_
    refine mGo_if ok rfl (fun h => ?_) (fun h => ?_)
    · exact absurd h (by decide)
    · refine mGo_run (n := 400) ok rfl ?_
      refine mGo_if ok rfl (fun h0 => ?_) (fun h0 => ?_)
      · subst h0
        refine mGo_run (n := 400) ok rfl ?_
        refine mGo_if ok rfl (fun h2 => ?_) (fun h2 => ?_)
        · refine mGo_run (n := 400) ok rfl ?_
          refine mGo_callP ok rfl (by omega) (c_firstOf (d := d) hf.2.1 hc hj) ?_
          refine mGo_runS 48 (n := 400) ok rfl ?_
          refine tail _ _ ?_
          simp only [if_true]
          by_cases k0 : aK F j = 0
          · simp [k0]
          · simp only [if_neg k0]
            rw [if_neg (neg (by have := w3 k0; omega))]
        · exact absurd rfl h2
      · refine mGo_run (n := 400) ok rfl ?_
        refine mGo_if ok rfl (fun h1 => ?_) (fun h1 => ?_)
        · subst h1
          refine mGo_run (n := 400) ok rfl ?_
          refine mGo_if ok rfl (fun h2 => ?_) (fun h2 => ?_)
          · exact absurd h2 (by decide)
          · refine mGo_run (n := 400) ok rfl ?_
            refine mGo_callP ok rfl (by omega) (c_secondOf (d := d) hf.2.1 hc hj) ?_
            refine tail _ _ ?_
            simp only [if_neg (show ¬ (1 : Int32) = 0 by decide), if_true]
            by_cases k0 : aK F j < 2
            · simp [k0]
            · simp only [if_neg k0]
              rw [if_neg (neg (by have := w4 (by omega); omega))]
        · refine mGo_run (n := 400) ok rfl ?_
          exact mGo_ret ok rfl trivial (⟨by simp only [if_neg h0, if_neg h1], rfl, rfl⟩)
theorem x_size (hf : fOk F) (hc : cF σ F) (hs : cS σ F) (f : Int32) : mNP g l (d + 1) 85 [.ref 0, .int f] lk ex σ (.int (qSize F f)) := by
  have ok : mOkP md_X8_size := ok_at 85 (by decide) rfl
  refine mC_of (md := md_X8_size) rfl (lt_at (by decide)) rfl ?_
  unfold qSize
  refine mGo_run (n := 400) ok rfl ?_
  cases hv : vF F f with
  | none =>
    refine mGo_callP ok rfl (by omega) (c_has0 (d := d) hc.1 hf.2.1 (vF_none hf.2.1 hv)) ?_
    refine mGo_run (n := 400) ok rfl ?_
    refine mGo_if ok rfl (fun h => ?_) (fun h => ?_)
    · refine mGo_run (n := 400) ok rfl ?_
      exact mGo_ret ok rfl trivial (⟨rfl, rfl, rfl⟩)
    · exact absurd rfl h
  | some j =>
    obtain ⟨hj, rfl⟩ := vF_some hf.2.1 hv
    have hn := hf.2.1
    refine mGo_callP ok rfl (by omega) (c_has1 (d := d) hc.1 hf.2.1 hj) ?_
    refine mGo_run (n := 400) ok rfl ?_
    refine mGo_if ok rfl (fun h => ?_) (fun h => ?_)
    · exact absurd h (by decide)
    · refine mGo_run (n := 400) ok rfl ?_
      refine mGo_side ok rfl (nI_in (by omega) (by omega)) ?_
      refine mGo_run (n := 400) ok rfl ?_
      exact mGo_ret ok rfl trivial (⟨by rw [nI_clamp (by omega), (cS_at hf hs hj).1], rfl, rfl⟩)
theorem x_subformulas (hf : fOk F) (hc : cF σ F) (hs : cS σ F) (f : Int32) : mNP g l (d + 1) 86 [.ref 0, .int f] lk ex σ (.long (qSub F f)) := by
  have ok : mOkP md_X8_subformulas := ok_at 86 (by decide) rfl
  refine mC_of (md := md_X8_subformulas) rfl (lt_at (by decide)) rfl ?_
  unfold qSub
  refine mGo_run (n := 400) ok rfl ?_
  cases hv : vF F f with
  | none =>
    refine mGo_callP ok rfl (by omega) (c_has0 (d := d) hc.1 hf.2.1 (vF_none hf.2.1 hv)) ?_
    refine mGo_run (n := 400) ok rfl ?_
    refine mGo_if ok rfl (fun h => ?_) (fun h => ?_)
    · refine mGo_run (n := 400) ok rfl ?_
      exact mGo_ret ok rfl trivial (⟨rfl, rfl, rfl⟩)
    · exact absurd rfl h
  | some j =>
    obtain ⟨hj, rfl⟩ := vF_some hf.2.1 hv
    have hn := hf.2.1
    refine mGo_callP ok rfl (by omega) (c_has1 (d := d) hc.1 hf.2.1 hj) ?_
    refine mGo_run (n := 400) ok rfl ?_
    refine mGo_if ok rfl (fun h => ?_) (fun h => ?_)
    · exact absurd h (by decide)
    · refine mGo_run (n := 400) ok rfl ?_
      refine mGo_side ok rfl (nI_in (by omega) (by omega)) ?_
      refine mGo_run (n := 400) ok rfl ?_
      exact mGo_ret ok rfl trivial (⟨by rw [nI_clamp (by omega), (cS_at hf hs hj).2.2], rfl, rfl⟩)
theorem x_truthTable (hf : fOk F) (hc : cF σ F) (hs : cS σ F) (f : Int32) : mNP g l (d + 1) 87 [.ref 0, .int f] lk ex σ (.int (qTab F f)) := by
  have ok : mOkP md_X8_truthTable := ok_at 87 (by decide) rfl
  refine mC_of (md := md_X8_truthTable) rfl (lt_at (by decide)) rfl ?_
  unfold qTab
  refine mGo_run (n := 400) ok rfl ?_
  cases hv : vF F f with
  | none =>
    refine mGo_callP ok rfl (by omega) (c_has0 (d := d) hc.1 hf.2.1 (vF_none hf.2.1 hv)) ?_
    refine mGo_run (n := 400) ok rfl ?_
    refine mGo_if ok rfl (fun h => ?_) (fun h => ?_)
    · refine mGo_run (n := 400) ok rfl ?_
      exact mGo_ret ok rfl trivial (⟨rfl, rfl, rfl⟩)
    · exact absurd rfl h
  | some j =>
    obtain ⟨hj, rfl⟩ := vF_some hf.2.1 hv
    have hn := hf.2.1
    refine mGo_callP ok rfl (by omega) (c_has1 (d := d) hc.1 hf.2.1 hj) ?_
    refine mGo_run (n := 400) ok rfl ?_
    refine mGo_if ok rfl (fun h => ?_) (fun h => ?_)
    · exact absurd h (by decide)
    · refine mGo_run (n := 400) ok rfl ?_
      refine mGo_side ok rfl (nI_in (by omega) (by omega)) ?_
      refine mGo_run (n := 400) ok rfl ?_
      exact mGo_ret ok rfl trivial (⟨by rw [nI_clamp (by omega), (cS_at hf hs hj).2.1], rfl, rfl⟩)
theorem x_isEquivalent (hf : fOk F) (hc : cF σ F) (hs : cS σ F) (f h2 : Int32) : mNP g l (d + 1) 88 [.ref 0, .int f, .int h2] lk ex σ (.int (qEqv F f h2)) := by
  have ok : mOkP md_X8_isEquivalent := ok_at 88 (by decide) rfl
  refine mC_of (md := md_X8_isEquivalent) rfl (lt_at (by decide)) rfl ?_
  unfold qEqv
  refine mGo_run (n := 400) ok rfl ?_
  cases hv : vF F f with
  | none =>
    refine mGo_callP ok rfl (by omega) (c_has0 (d := d) hc.1 hf.2.1 (vF_none hf.2.1 hv)) ?_
    refine mGo_run (n := 400) ok rfl ?_
    refine mGo_if ok rfl (fun h => ?_) (fun h => ?_)
    · refine mGo_run (n := 400) ok rfl ?_
      exact mGo_ret ok rfl trivial (⟨rfl, rfl, rfl⟩)
    · exact absurd rfl h
  | some j =>
    obtain ⟨hj, rfl⟩ := vF_some hf.2.1 hv
    have hn := hf.2.1
    refine mGo_callP ok rfl (by omega) (c_has1 (d := d) hc.1 hf.2.1 hj) ?_
    refine mGo_run (n := 400) ok rfl ?_
    refine mGo_if ok rfl (fun h => ?_) (fun h => ?_)
    · exact absurd h (by decide)
    · refine mGo_run (n := 400) ok rfl ?_
      cases hv2 : vF F h2 with
      | none =>
        refine mGo_callP ok rfl (by omega) (c_has0 (d := d) hc.1 hf.2.1 (vF_none hf.2.1 hv2)) ?_
        refine mGo_run (n := 400) ok rfl ?_
        refine mGo_if ok rfl (fun h1 => ?_) (fun h1 => ?_)
        · refine mGo_run (n := 400) ok rfl ?_
          exact mGo_ret ok rfl trivial (⟨rfl, rfl, rfl⟩)
        · exact absurd rfl h1
      | some i =>
        obtain ⟨hi, rfl⟩ := vF_some hf.2.1 hv2
        refine mGo_callP ok rfl (by omega) (c_has1 (d := d) hc.1 hf.2.1 hi) ?_
        refine mGo_run (n := 400) ok rfl ?_
        refine mGo_if ok rfl (fun h1 => ?_) (fun h1 => ?_)
        · exact absurd h1 (by decide)
        · refine mGo_run (n := 400) ok rfl ?_
          refine mGo_side ok rfl (nI_in (by omega) (by omega)) ?_
          refine mGo_run (n := 400) ok rfl ?_
          refine mGo_side ok rfl (nI_in (by omega) (by omega)) ?_
          refine mGo_run (n := 400) ok rfl ?_
          rw [nI_clamp (by omega), nI_clamp (by omega), (cS_at hf hs hj).2.1, (cS_at hf hs hi).2.1]
          refine mGo_if ok rfl (fun h3 => ?_) (fun h3 => ?_)
          · refine mGo_run (n := 400) ok rfl ?_
            exact mGo_ret ok rfl trivial (⟨by simp only [if_pos h3], rfl, rfl⟩)
          · refine mGo_run (n := 400) ok rfl ?_
            exact mGo_ret ok rfl trivial (⟨by simp only [if_neg h3], rfl, rfl⟩)
theorem x_formulaCount (hc : cF σ F) : mNP g l d 77 [.ref 0] lk ex σ (.int (nI (aN F))) := by
  have ok : mOkP md_X8_formulaCount := ok_at 77 (by decide) rfl
  refine mC_of (md := md_X8_formulaCount) rfl (lt_at (by decide)) rfl ?_
  refine mGo_run (n := 400) ok rfl ?_
  exact mGo_ret ok rfl trivial (⟨by rw [hc.1], rfl, rfl⟩)
theorem x_negate (hf : fOk F) (hc : cF σ F) (hs : cS σ F) (f : Int32) : mNR g l (d + 3) 81 [.ref 0, .int f] lk ex σ (.int (qNeg F f).1) (fun σ1 => fr 1 8 σ σ1 ∧ cF σ1 (qNeg F f).2 ∧ cS σ1 (qNeg F f).2) := by
  have ok : mOkP md_X8_negate := ok_at 81 (by decide) rfl
  refine mC_of (md := md_X8_negate) rfl (lt_at (by decide)) rfl ?_
  unfold qNeg
  refine mGo_run (n := 400) ok rfl ?_
  cases hv : vF F f with
  | none =>
    refine mGo_callP ok rfl (by omega) (c_has0 (d := d) hc.1 hf.2.1 (vF_none hf.2.1 hv)) ?_
    refine mGo_run (n := 400) ok rfl ?_
    refine mGo_if ok rfl (fun h => ?_) (fun h => ?_)
    · refine mGo_run (n := 400) ok rfl ?_
      exact mGo_ret ok rfl trivial (⟨rfl, rfl, fr.refl, hc, hs⟩)
    · exact absurd rfl h
  | some j =>
    obtain ⟨hj, rfl⟩ := vF_some hf.2.1 hv
    refine mGo_callP ok rfl (by omega) (c_has1 (d := d) hc.1 hf.2.1 hj) ?_
    refine mGo_run (n := 400) ok rfl ?_
    refine mGo_if ok rfl (fun h => ?_) (fun h => ?_)
    · exact absurd h (by decide)
    · refine mGo_run (n := 400) ok rfl ?_
      refine mGo_callR ok rfl (by omega) (c_negationOf (d := d) hf hc hs hj) (fun σ1 hσ1 => ?_)
      refine mGo_run (n := 400) ok rfl ?_
      exact mGo_ret ok rfl trivial (⟨rfl, rfl, hσ1⟩)
theorem x_combine (hf : fOk F) (hc : cF σ F) (hs : cS σ F) (k f h2 : Int32) : mNR g l (d + 2) 82 [.ref 0, .int k, .int f, .int h2] lk ex σ (.int (qCom F k f h2).1) (fun σ1 => fr 1 8 σ σ1 ∧ cF σ1 (qCom F k f h2).2 ∧ cS σ1 (qCom F k f h2).2) := by
  have ok : mOkP md_X8_combine := ok_at 82 (by decide) rfl
  refine mC_of (md := md_X8_combine) rfl (lt_at (by decide)) rfl ?_
  unfold qCom
  refine mGo_run (n := 400) ok rfl ?_
  refine mGo_if ok rfl (fun h => ?_) (fun h => ?_)
  · refine mGo_run (n := 400) ok rfl ?_
    rw [if_neg (fun q => absurd h (Int32.not_lt.mpr q.1))]
    exact mGo_ret ok rfl trivial (⟨rfl, rfl, fr.refl, hc, hs⟩)
  · refine mGo_run (n := 400) ok rfl ?_
    refine mGo_if ok rfl (fun h1 => ?_) (fun h1 => ?_)
    · have hk : 2 ≤ k ∧ k ≤ 4 := ⟨Int32.not_lt.mp h, h1⟩
      rw [if_pos hk]
      obtain ⟨kn, hkn, rfl⟩ := nI_of2 (n := 4) (M := 4) (by decide) (fun z => absurd (Int32.lt_of_lt_of_le z (by decide : (0 : Int32) ≤ 2)) h) h1
      have hk2 : 2 ≤ kn := by
        rcases Nat.lt_or_ge kn 2 with z | z
        · exact absurd ((nI_ltI (a := kn) (b := 2) (by omega) (by omega)).mpr z) h
        · exact z
      rw [nI_clamp (by omega)]
      refine mGo_run (n := 400) ok rfl ?_
      cases hv : vF F f with
      | none =>
        refine mGo_callP ok rfl (by omega) (c_has0 (d := d) hc.1 hf.2.1 (vF_none hf.2.1 hv)) ?_
        refine mGo_run (n := 400) ok rfl ?_
        refine mGo_if ok rfl (fun h3 => ?_) (fun h3 => ?_)
        · refine mGo_run (n := 400) ok rfl ?_
          exact mGo_ret ok rfl trivial (⟨rfl, rfl, fr.refl, hc, hs⟩)
        · exact absurd rfl h3
      | some i =>
        obtain ⟨hi, rfl⟩ := vF_some hf.2.1 hv
        refine mGo_callP ok rfl (by omega) (c_has1 (d := d) hc.1 hf.2.1 hi) ?_
        refine mGo_run (n := 400) ok rfl ?_
        refine mGo_if ok rfl (fun h3 => ?_) (fun h3 => ?_)
        · exact absurd h3 (by decide)
        · refine mGo_run (n := 400) ok rfl ?_
          cases hv2 : vF F h2 with
          | none =>
            refine mGo_callP ok rfl (by omega) (c_has0 (d := d) hc.1 hf.2.1 (vF_none hf.2.1 hv2)) ?_
            refine mGo_run (n := 400) ok rfl ?_
            refine mGo_if ok rfl (fun h4 => ?_) (fun h4 => ?_)
            · refine mGo_run (n := 400) ok rfl ?_
              exact mGo_ret ok rfl trivial (⟨rfl, rfl, fr.refl, hc, hs⟩)
            · exact absurd rfl h4
          | some j =>
            obtain ⟨hj, rfl⟩ := vF_some hf.2.1 hv2
            refine mGo_callP ok rfl (by omega) (c_has1 (d := d) hc.1 hf.2.1 hj) ?_
            refine mGo_run (n := 400) ok rfl ?_
            refine mGo_if ok rfl (fun h4 => ?_) (fun h4 => ?_)
            · exact absurd h4 (by decide)
            · refine mGo_run (n := 400) ok rfl ?_
              have hmk := c_make (g := g) (l := l) (d := d) (lk := lk) (ex := ex) (k := kn) (a := i) (b := j) hf hc hs (by omega) hi hj (by omega)
              rw [if_neg (by omega)] at hmk
              refine mGo_callR ok rfl (by omega) (hmk) (fun σ1 hσ1 => ?_)
              refine mGo_run (n := 400) ok rfl ?_
              exact mGo_ret ok rfl trivial (⟨rfl, rfl, hσ1⟩)
    · refine mGo_run (n := 400) ok rfl ?_
      rw [if_neg (fun q => h1 q.2)]
      exact mGo_ret ok rfl trivial (⟨rfl, rfl, fr.refl, hc, hs⟩)
end T
