/-! the class Formulas: reads -/
theorem b01 (c : Prop) [Decidable c] : (if c then (1 : Int32) else 0) = 0 ∨ (if c then (1 : Int32) else 0) = 1 := by split <;> simp
/-- an int in a range is a number -/
theorem i_in {f : Int32} {n : Nat} (hn : n < 2 ^ 31) : (0 ≤ f ∧ f < nI n) ↔ ∃ j, j < n ∧ f = nI j := by
  constructor
  · rintro ⟨h1, h2⟩
    obtain ⟨j, hj, rfl⟩ := nI_of (x := f) (Int32.not_lt.mpr h1)
    exact ⟨j, (nI_ltI hj hn).mp h2, rfl⟩
  · rintro ⟨j, hj, rfl⟩
    exact ⟨nI_pos' (by omega), (nI_ltI (by omega) hn).mpr hj⟩
/-- what the tables of formulas hold: n formulas, kinds K, parts A and B (of a negation B is 0, of an atom both are) -/
def fOk (n : Nat) (K A B : Nat → Nat) : Prop := 4 ≤ n ∧ n ≤ 40 ∧ ∀ j, j < n → (K j = 0 ↔ j < 4) ∧ K j ≤ 4 ∧ (K j ≠ 0 → A j < j) ∧ (2 ≤ K j → B j < j) ∧ (K j < 2 → B j = 0) ∧ (K j = 0 → A j = 0)
def cF (σ : mHp) (n : Nat) (K A B : Nat → Nat) : Prop := σ.1 1 6 = nI n ∧ ∀ j, j < n → σ.1 2 j = nI (K j) ∧ σ.1 3 j = (if K j = 0 then -1 else nI (A j)) ∧ σ.1 4 j = (if K j < 2 then -1 else nI (B j))
section T
variable {g : mG} {l : Launch} {d : Nat} {lk : Nat} {ex : mSh} {σ : mHp} {n : Nat} {K A B : Nat → Nat}
theorem c_has (f : Int32) : mNP g l d 19 [.ref 1, .int f] lk ex σ (.int (if 0 ≤ f ∧ f < σ.1 1 6 then 1 else 0)) := by
  have ok : mOkP md_X2_has := ok_at 19 (by decide) rfl
  refine mC_of (md := md_X2_has) rfl (lt_at (by decide)) rfl ?_
  refine mGo_run (n := 400) ok rfl ?_
  refine mGo_if ok rfl (fun h => ?_) (fun h => ?_)
  · refine mGo_run (n := 400) ok rfl ?_
    have e : (if 0 ≤ f ∧ f < σ.1 1 6 then (1 : Int32) else 0) = 0 := if_neg (fun q => absurd h (Int32.not_lt.mpr q.1))
    rw [e]
    exact mGo_ret ok rfl (Or.inl rfl) (⟨rfl, rfl, rfl⟩)
  · refine mGo_run (n := 400) ok rfl ?_
    refine mGo_if ok rfl (fun h1 => ?_) (fun h1 => ?_)
    · refine mGo_run (n := 400) ok rfl ?_
      have e : (if 0 ≤ f ∧ f < σ.1 1 6 then (1 : Int32) else 0) = 0 := if_neg (fun q => absurd q.2 (Int32.not_lt.mpr h1))
      rw [e]
      exact mGo_ret ok rfl (Or.inl rfl) (⟨rfl, rfl, rfl⟩)
    · refine mGo_run (n := 400) ok rfl ?_
      have e : (if 0 ≤ f ∧ f < σ.1 1 6 then (1 : Int32) else 0) = 1 := if_pos ⟨Int32.not_lt.mp h, Int32.not_le.mp h1⟩
      rw [e]
      exact mGo_ret ok rfl (Or.inr rfl) (⟨rfl, rfl, rfl⟩)
theorem c_kindOf (hf : fOk n K A B) (hc : cF σ n K A B) {j : Nat} (hj : j < n) : mNP g l d 20 [.ref 1, .int (nI j)] lk ex σ (.int (nI (K j))) := by
  obtain ⟨h4, h40, hw⟩ := hf
  have ok : mOkP md_X2_kindOf := ok_at 20 (by decide) rfl
  refine mC_of (md := md_X2_kindOf) rfl (lt_at (by decide)) rfl ?_
  refine mGo_run (n := 400) ok rfl ?_
  refine mGo_if ok rfl (fun h => ?_) (fun h => ?_)
  · exact absurd h (nI_pos (by omega))
  · refine mGo_run (n := 400) ok rfl ?_
    refine mGo_if ok rfl (fun h1 => ?_) (fun h1 => ?_)
    · rw [hc.1] at h1
      exact absurd h1 (nI_ge hj (by omega))
    · refine mGo_run (n := 400) ok rfl ?_
      refine mGo_side ok rfl (nI_in (by omega) (by omega)) ?_
      refine mGo_run (n := 400) ok rfl ?_
      exact mGo_ret ok rfl trivial (⟨by rw [nI_clamp (by omega), (hc.2 j hj).1], rfl, rfl⟩)
end T
