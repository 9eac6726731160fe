/-! the links' array grows -/
def exL (k : Nat) : mSh := (List.range k).map (fun i => (100, 4096 * 2 ^ i, []))
def lkL (k : Nat) : Nat := if k = 0 then 26 else 67 + k
def SK (k : Nat) : mSh := SH (lkL k) (exL k)
theorem exL_len (k : Nat) : (exL k).length = k := by simp [exL]
theorem SH_len (lk : Nat) (ex : mSh) : (SH lk ex).length = 68 + ex.length := by simp only [SH, List.length_cons]; omega
theorem SH_at (lk : Nat) (ex : mSh) (i : Nat) : (SH lk ex)[68 + i]? = ex[i]? := by
  rw [Nat.add_comm]
  rfl
theorem SH_app (lk : Nat) (ex : mSh) (x : Nat × Nat × List (Option Nat)) : SH lk ex ++ [x] = SH lk (ex ++ [x]) := rfl
theorem exL_s (k : Nat) : exL k ++ [(100, 4096 * 2 ^ k, [])] = exL (k + 1) := by simp [exL, List.range_succ]
theorem SK_lk (k : Nat) : (SK k)[lkL k]? = some (100, 2048 * 2 ^ k, []) := by
  unfold SK
  cases k with
  | zero => rfl
  | succ k =>
    rw [show lkL (k + 1) = 68 + k by simp [lkL]; omega, SH_at]
    simp [exL]
    rw [Nat.pow_succ]; omega
theorem lkL_lt {k : Nat} (h : k ≤ 7) : lkL k < 1000000 := by unfold lkL; split <;> omega
theorem pow_le7 {k : Nat} (h : k ≤ 7) : 2 ^ k ≤ 128 ∧ 1 ≤ 2 ^ k := by
  have : ∀ k, k ≤ 7 → 2 ^ k ≤ 128 ∧ 1 ≤ 2 ^ k := by decide
  exact this k h
/-- the links: E are those there are -/
def lE (σ : mHp) (k : Nat) (E : List Nat) : Prop := σ.1 21 8 = nI E.length ∧ E.length ≤ 2048 * 2 ^ k ∧ ∀ j x, E[j]? = some x → σ.1 (lkL k) j = nI x
/-- what is changed when a link is added -/
def fK (σ σ1 : mHp) : Prop := (∀ i, i < 68 → i ≠ 21 → i ≠ 26 → σ1.1 i = σ.1 i ∧ σ1.2.1 i = σ.2.1 i ∧ σ1.2.2 i = σ.2.2 i) ∧ (∀ j, j ≠ 8 → σ1.1 21 j = σ.1 21 j)
theorem fK.refl {σ : mHp} : fK σ σ := ⟨fun _ _ _ _ => ⟨rfl, rfl, rfl⟩, fun _ _ => rfl⟩
theorem fK.trans {σ σ1 σ2 : mHp} (h1 : fK σ σ1) (h2 : fK σ1 σ2) : fK σ σ2 := ⟨fun i a b c => by
  obtain ⟨x, y, z⟩ := h1.1 i a b c
  obtain ⟨x1, y1, z1⟩ := h2.1 i a b c
  exact ⟨x1.trans x, y1.trans y, z1.trans z⟩, fun j hj => (h2.2 j hj).trans (h1.2 j hj)⟩
section T
variable {g : mG} {l : Launch} {d : Nat} {lk : Nat} {ex : mSh} {σ : mHp}
theorem cp_link : Cond.methodLink (mCn md_J7_copyOf.2.1) 150 arraycopyName ∈ mTB := List.mem_filter.mpr (by decide +kernel)
theorem c_copyOf {q n0 N : Nat} (hq : (SH lk ex)[q]? = some (100, n0, [])) (hlt : n0 < N) (hN : N ≤ 1000000) (hx : ex.length < 1000) : mC g l (d + 1) 198 [.ref q, .int (nI N)] (SH lk ex) σ (fun r sp σ1 => r = some (.ref (68 + ex.length)) ∧ sp = SH lk (ex ++ [(100, N, [])]) ∧ σ1 = mCpI (mNew σ (68 + ex.length)) q (68 + ex.length) 0 0 n0) := by
  have hql : q < 68 + ex.length := by have := (List.getElem?_eq_some_iff.mp hq).1; rw [SH_len] at this; exact this
  have ok : mOkP md_J7_copyOf := ok_at 198 (by decide) rfl
  refine mC_of (md := md_J7_copyOf) rfl (lt_at (by decide)) rfl ?_
  refine mGo_runS 2 (n := 400) ok rfl ?_
  refine mGo_len ok rfl hq (by omega) ?_
  refine mGo_ifI ok rfl (nI_eq (a := N) (b := n0) (by omega) (by omega)) (fun h => ?_) (fun h => ?_)
  · omega
  · refine mGo_run (n := 400) ok rfl ?_
    refine mGo_newa (i := 68 + ex.length) (N := N) ok rfl rfl hN (SH_len lk ex) (by omega) (by rw [SH_len]; omega) (Nat.le_refl _) (SH_app _ _ _) ?_
    have hq2 : (SH lk (ex ++ [(100, N, [])]))[q]? = some (100, n0, []) := by
      rw [← SH_app, List.getElem?_append_left (by rw [SH_len]; exact hql)]; exact hq
    have hi2 : (SH lk (ex ++ [(100, N, [])]))[68 + ex.length]? = some (100, N, []) := by rw [SH_at]; simp
    refine mGo_runS 23 (n := 400) ok rfl ?_
    refine mGo_len ok rfl hq2 (by omega) ?_
    refine mGo_run (n := 400) ok rfl ?_
    refine mGo_callP ok rfl (by omega) (c_min (d := d) (nI n0) (nI N)) ?_
    rw [if_neg (fun z => absurd z (nI_nlt (a := N) (b := n0) (by omega) (by omega)))]
    refine mGo_cpI (a := 0) (b := 0) (n := n0) ok rfl cp_link hq2 hi2 (by omega) (by omega) (by omega) (by omega) ⟨by omega, by omega⟩ (by omega) ?_
    refine mGo_run (n := 400) ok rfl ?_
    exact mGo_ret ok rfl trivial (⟨rfl, rfl, rfl⟩)
theorem c_fillI {q n : Nat} (hq : (SH lk ex)[q]? = some (100, n, [])) (hl : q < 1000000) (hn : n ≤ 1000000) (v : Int32) : mNV g l d 196 [.ref q, .int v] lk ex σ (fun σ1 => σ1 = (fun x => if x = q then (fun j => if j < n then v else σ.1 q j) else σ.1 x, σ.2)) := by
  have ok : mOkP md_J7_fillI := ok_at 196 (by decide) rfl
  refine mC_of (md := md_J7_fillI) rfl (lt_at (by decide)) rfl ?_
  refine mGo_runS 3 (n := 400) ok rfl ?_
  refine mGo_len ok rfl hq hl ?_
  refine mGo_runS 5 (n := 400) ok rfl ?_
  have loop : ∀ m i, i + m = n → mGo g l d md_J7_fillI (SH lk ex).length (mTot (SH lk ex)) (5, [some (.ref q), some (.int v), some (.int (nI i)), some (.int (nI n))], [], SH lk ex, (fun x => if x = q then (fun j => if j < i then v else σ.1 q j) else σ.1 x, σ.2)) (fun r sp σ1 => r = none ∧ sp = SH lk ex ∧ σ1 = (fun x => if x = q then (fun j => if j < n then v else σ.1 q j) else σ.1 x, σ.2)) := by
    intro m
    induction m with
    | zero =>
      intro i hi
      have e : i = n := by omega
      subst e
      refine mGo_run (n := 400) ok rfl ?_
      refine mGo_ifI ok rfl (nI_leI (a := i) (b := i) (by omega) (by omega)) (fun h => ?_) (fun h => ?_)
      · refine mGo_run (n := 400) ok rfl ?_
        exact mGo_ret ok rfl trivial (⟨rfl, rfl, rfl⟩)
      · omega
    | succ m ih =>
      intro i hi
      refine mGo_run (n := 400) ok rfl ?_
      refine mGo_ifI ok rfl (nI_leI (a := n) (b := i) (by omega) (by omega)) (fun h => ?_) (fun h => ?_)
      · omega
      · refine mGo_run (n := 400) ok rfl ?_
        refine mGo_ist ok rfl hq hl (nI_in (by omega) (by omega)) ?_
        rw [nI_clamp (by omega)]
        refine mGo_runS 5 (n := 400) ok rfl ?_
        rw [nI_1, show mWI (fun x => if x = q then (fun j => if j < i then v else σ.1 q j) else σ.1 x, σ.2) q i v = (fun x => if x = q then (fun j => if j < i + 1 then v else σ.1 q j) else σ.1 x, σ.2) by
          simp only [mWI]
          congr 1
          funext x
          by_cases hx : x = q
          · simp only [if_pos hx, if_true]
            funext j
            simp only [upd]
            by_cases hj : j = i
            · rw [if_pos hj, if_pos (by omega)]
            · rw [if_neg hj]
              by_cases h2 : j < i
              · rw [if_pos h2, if_pos (by omega)]
              · rw [if_neg h2, if_neg (by omega)]
          · simp only [if_neg hx]]
        exact ih (i + 1) (by omega)
  have := loop n 0 (by omega)
  have e : ((fun x => if x = q then (fun j => if j < 0 then v else σ.1 q j) else σ.1 x, σ.2) : mHp) = σ := by
    obtain ⟨s1, s2⟩ := σ
    simp only
    congr 1
    funext x
    by_cases hx : x = q
    · subst hx; simp
    · simp [hx]
  rw [e] at this
  exact this
end T
