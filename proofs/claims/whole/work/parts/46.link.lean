/-! the class Search: a link is added -/
theorem lkL_ne {k i : Nat} (h : i ≠ 26) (h2 : i < 68) : i ≠ lkL k := by unfold lkL; split <;> omega
theorem lE_app {σ : mHp} {k : Nat} {E : List Nat} {v : Nat} (h : lE σ k E) (hl : E.length < 2048 * 2 ^ k) : lE (mWI (mWI σ (lkL k) E.length (nI v)) 21 8 (nI (E.length + 1))) k (E ++ [v]) := by
  refine ⟨by rw [WI_at, if_pos ⟨rfl, rfl⟩]; simp, by simp; omega, fun j x hx => ?_⟩
  have ne := lkL_ne (k := k) (i := 21) (by decide) (by decide)
  rw [WI_at, if_neg (fun z => ne z.1.symm), WI_at]
  rcases Nat.lt_or_ge j E.length with z | z
  · rw [List.getElem?_append_left z] at hx
    rw [if_neg (fun y => by omega)]
    exact h.2.2 j x hx
  · have hl2 := (List.getElem?_eq_some_iff.mp hx).1
    simp at hl2
    have e : j = E.length := by omega
    subst e
    simp at hx
    rw [if_pos ⟨rfl, rfl⟩, hx]
theorem fK_app {σ : mHp} {k m : Nat} {v w : Int32} : fK σ (mWI (mWI σ (lkL k) m v) 21 8 w) := by
  refine ⟨fun i h1 h2 h3 => ⟨?_, rfl, rfl⟩, fun j hj => ?_⟩
  · funext j
    rw [WI_at, if_neg (fun z => h2 z.1), WI_at, if_neg (fun z => lkL_ne h3 h1 z.1)]
  · rw [WI_at, if_neg (fun z => hj z.2), WI_at, if_neg (fun z => lkL_ne (k := k) (i := 21) (by decide) (by decide) z.1)]
section T
variable {g : mG} {l : Launch} {d : Nat} {σ : mHp}
theorem c_addLink {k : Nat} (hk : k ≤ 7) {E : List Nat} (hE : lE σ k E) (hl : E.length ≤ 200000) (v : Nat) : mC g l (d + 2) 39 [.ref 21, .int (nI v)] (SK k) σ (fun r sp σ1 => r = none ∧ ∃ k1, k ≤ k1 ∧ k1 ≤ 7 ∧ sp = SK k1 ∧ lE σ1 k1 (E ++ [v]) ∧ fK σ σ1) := by
  show mC g l (d + 2) 39 [.ref 21, .int (nI v)] (SH (lkL k) (exL k)) σ _
  have ok : mOkP md_X4_addLink := ok_at 39 (by decide) rfl
  refine mC_of (md := md_X4_addLink) rfl (lt_at (by decide)) rfl ?_
  have tail : ∀ (k1 : Nat) (τ : mHp), k ≤ k1 → k1 ≤ 7 → E.length < 2048 * 2 ^ k1 → lE τ k1 E → fK σ τ → mGo g l (d + 2) md_X4_addLink (SH (lkL k) (exL k)).length (mTot (SH (lkL k) (exL k))) (29, [some (.ref 21), some (.int (nI v))], [], SH (lkL k1) (exL k1), τ) (fun r sp σ1 => r = none ∧ ∃ k1, k ≤ k1 ∧ k1 ≤ 7 ∧ sp = SK k1 ∧ lE σ1 k1 (E ++ [v]) ∧ fK σ σ1) := by
    intro k1 τ h1 h2 h3 h4 h5
    refine mGo_runS 38 (n := 400) ok rfl ?_
    rw [h4.1]
    refine mGo_ist ok rfl (SK_lk k1) (lkL_lt h2) (nI_in h3 (by have := pow_le7 h2; omega)) ?_
    rw [nI_clamp (by omega)]
    refine mGo_run (n := 400) ok rfl ?_
    rw [show (mWI τ (lkL k1) E.length (nI v)).1 21 8 = nI E.length by rw [WI_at, if_neg (fun z => lkL_ne (k := k1) (i := 21) (by decide) (by decide) z.1)]; exact h4.1, nI_1]
    exact mGo_ret ok rfl trivial (⟨rfl, k1, h1, h2, rfl, lE_app h4 h3, h5.trans fK_app⟩)
  have hp := pow_le7 hk
  refine mGo_runS 8 (n := 400) ok rfl ?_
  refine mGo_len ok rfl (SK_lk k) (lkL_lt hk) ?_
  rw [hE.1]
  refine mGo_ifI ok rfl (nI_ltI (a := E.length) (b := 2048 * 2 ^ k) (by omega) (by omega)) (fun h => ?_) (fun h => ?_)
  · exact tail k σ (Nat.le_refl _) hk h hE fK.refl
  · have hEl := hE.2.1
    have e1 : E.length = 2048 * 2 ^ k := by omega
    have hk6 : k ≤ 6 := by
      rcases Nat.lt_or_ge k 7 with z | z
      · omega
      · have : k = 7 := by omega
        subst this
        omega
    refine mGo_runS 23 (n := 400) ok rfl ?_
    rw [hE.1, show (2 : Int32) * nI E.length = nI (4096 * 2 ^ k) by rw [show (2 : Int32) = nI 2 from rfl, pk_mul, e1]; congr 1; omega]
    refine mGo_call ok rfl (by omega) (c_copyOf (d := d) (SK_lk k) (N := 4096 * 2 ^ k) (by omega) (by omega) (by rw [exL_len]; omega)) (fun r sp1 σ1 hq => ?_)
    obtain ⟨rfl, rfl, rfl⟩ := hq
    rw [exL_len, exL_s, show 68 + k = lkL (k + 1) by simp [lkL]; omega]
    have hp6 := pow_le7 (k := k + 1) (by omega)
    have e2 : 2 ^ (k + 1) = 2 * 2 ^ k := by rw [Nat.pow_succ]; omega
    have ne : lkL k ≠ lkL (k + 1) := by
      unfold lkL
      by_cases z : k = 0
      · rw [if_pos z, if_neg (by omega)]; omega
      · rw [if_neg z, if_neg (by omega)]; omega
    have hge : 68 ≤ lkL (k + 1) := by unfold lkL; rw [if_neg (by omega)]; omega
    refine mGo_runS 29 (n := 400) ok rfl ?_
    refine tail (k + 1) _ (by omega) (by omega) (by rw [e2]; omega) ⟨?_, by rw [e2]; omega, fun j x hx => ?_⟩ ⟨fun i h1 h2 h3 => ?_, fun j hj => ?_⟩
    · show (if 21 = lkL (k + 1) then _ else (if 21 = lkL (k + 1) then _ else σ.1 21)) 8 = _
      rw [if_neg (by omega), if_neg (by omega)]; exact hE.1
    · have hj := (List.getElem?_eq_some_iff.mp hx).1
      show (if lkL (k + 1) = lkL (k + 1) then va_cpy ((mNew σ (lkL (k + 1))).1 (lkL k)) _ 0 0 (2048 * 2 ^ k) else _) j = _
      rw [if_pos rfl, pk_cpy_in (by omega) (by omega)]
      show (if lkL k = lkL (k + 1) then _ else σ.1 (lkL k)) (0 + (j - 0)) = _
      rw [if_neg ne, show 0 + (j - 0) = j by omega]
      exact hE.2.2 j x hx
    · refine ⟨?_, ?_, ?_⟩
      · show (if i = lkL (k + 1) then _ else (if i = lkL (k + 1) then _ else σ.1 i)) = _
        rw [if_neg (by omega), if_neg (by omega)]
      · show (if i = lkL (k + 1) then _ else σ.2.1 i) = _
        rw [if_neg (by omega)]
      · show (if i = lkL (k + 1) then _ else σ.2.2 i) = _
        rw [if_neg (by omega)]
    · show (if 21 = lkL (k + 1) then _ else (if 21 = lkL (k + 1) then _ else σ.1 21)) j = _
      rw [if_neg (by omega), if_neg (by omega)]
end T
