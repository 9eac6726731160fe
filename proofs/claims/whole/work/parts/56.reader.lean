/-! the class TextReader -/
theorem cF_cut {σ : mHp} {F F1 : aF} (h : fle F F1) (hc : cF σ F1) : cF (mWI σ 1 6 (nI (aN F))) F := by
  refine ⟨by rw [WI_at, if_pos ⟨rfl, rfl⟩], fun j hj => ?_⟩
  obtain ⟨a, b, c⟩ := h.2 j hj
  obtain ⟨x, y, z⟩ := hc.2 j (by have := h.1; omega)
  rw [a] at x y z
  rw [b] at y
  rw [c] at z
  refine ⟨?_, ?_, ?_⟩
  · rw [WI_at, if_neg (by omega)]; exact x
  · rw [WI_at, if_neg (by omega)]; exact y
  · rw [WI_at, if_neg (by omega)]; exact z
theorem cS_cut {σ : mHp} {F F1 : aF} {v : Int32} (h : fle F F1) (hs : cS σ F1) : cS (mWI σ 1 6 v) F := by
  intro j hj
  obtain ⟨a, b, c⟩ := h.2 j hj
  obtain ⟨x, y, z⟩ := hs j (by have := h.1; omega)
  have e5 : (mWI σ 1 6 v).1 5 = σ.1 5 := by funext w; rw [WI_at, if_neg (by omega)]
  have e6 : (mWI σ 1 6 v).1 6 = σ.1 6 := by funext w; rw [WI_at, if_neg (by omega)]
  rw [e5, e6]
  simp only [szR, tbR, sbR, a, b, c] at x y z
  exact ⟨x, y, z⟩
/-- what the reader changes: the formulas and its own things -/
def frT (σ σ1 : mHp) : Prop := ∀ i, ¬ (1 ≤ i ∧ i < 8) → ¬ (10 ≤ i ∧ i < 13) → sm3 σ σ1 i
theorem frT.refl {σ : mHp} : frT σ σ := fun _ _ _ => ⟨rfl, rfl, rfl⟩
theorem frT.trans {σ σ1 σ2 : mHp} (h1 : frT σ σ1) (h2 : frT σ1 σ2) : frT σ σ2 := fun i a b => (h1 i a b).trans (h2 i a b)
theorem frT_F {σ σ1 : mHp} (h : fr 1 8 σ σ1) : frT σ σ1 := fun i a _ => h i a
theorem frT.WI {σ σ1 : mHp} {i j : Nat} {v : Int32} (h : frT σ σ1) (h1 : 10 ≤ i ∧ i < 13 ∨ 1 ≤ i ∧ i < 8) : frT σ (mWI σ1 i j v) := fun c a b => by
  obtain ⟨x, y, z⟩ := h c a b
  refine ⟨?_, y, z⟩
  rw [← x]
  funext w
  rw [WI_at, if_neg (by omega)]
def oA (σ : mHp) (ops : List Nat) : Prop := σ.1 10 3 = nI ops.length ∧ ∀ i c, ops.reverse[i]? = some c → σ.1 11 i = nI c
def vA (σ : mHp) (vals : List Nat) : Prop := σ.1 10 4 = nI vals.length ∧ ∀ i v, vals.reverse[i]? = some v → σ.1 12 i = nI v
def cT (σ : mHp) (ops vals : List Nat) (F : aF) : Prop := oA σ ops ∧ vA σ vals ∧ σ.1 10 5 = 0 ∧ cF σ F ∧ cS σ F ∧ fOk F ∧ (∀ c ∈ ops, 1 ≤ c ∧ c ≤ 5) ∧ ∀ v ∈ vals, v < aN F
/-- there was no room -/
def cU (σ : mHp) (ops : List Nat) (F : aF) : Prop := oA σ ops ∧ (∃ n, n ≤ 40 ∧ σ.1 10 4 = nI n) ∧ σ.1 10 5 = 1 ∧ cF σ F ∧ cS σ F ∧ fOk F ∧ (∀ c ∈ ops, 1 ≤ c ∧ c ≤ 5) ∧ aN F = 40
theorem rev_top {a : Nat} {t : List Nat} : (a :: t).reverse[t.length]? = some a := by
  rw [List.reverse_cons, List.getElem?_append_right (by simp)]; simp
theorem rev_at {a : Nat} {t : List Nat} {i x : Nat} (h : t.reverse[i]? = some x) : (a :: t).reverse[i]? = some x := by
  rw [List.reverse_cons, List.getElem?_append_left (List.getElem?_eq_some_iff.mp h).1]; exact h
theorem oA_tail {σ σ1 : mHp} {c : Nat} {ops : List Nat} (h : oA σ (c :: ops)) (h1 : σ1.1 10 3 = nI ops.length) (h2 : σ1.1 11 = σ.1 11) : oA σ1 ops := ⟨h1, fun i x hx => by rw [h2]; exact h.2 i x (rev_at hx)⟩
theorem rev_app {a : Nat} {t : List Nat} {i x : Nat} (h : (a :: t).reverse[i]? = some x) : (i < t.length ∧ t.reverse[i]? = some x) ∨ (i = t.length ∧ x = a) := by
  have hl := (List.getElem?_eq_some_iff.mp h).1
  simp at hl
  rw [List.reverse_cons] at h
  rcases Nat.lt_or_ge i t.length with z | z
  · rw [List.getElem?_append_left (by simp; exact z)] at h
    exact Or.inl ⟨z, h⟩
  · have e : i = t.length := by omega
    subst e
    rw [List.getElem?_append_right (by simp)] at h
    simp at h
    exact Or.inr ⟨rfl, h.symm⟩
section T
variable {g : mG} {l : Launch} {d : Nat} {lk : Nat} {ex : mSh} {σ : mHp} {T : aI} {F : aF}
theorem c_pushOperator {n : Nat} (h : σ.1 10 3 = nI n) (hn : n < 40) (v : Int32) : mNV g l d 65 [.ref 10, .int v] lk ex σ (fun σ1 => σ1 = mWI (mWI σ 11 n v) 10 3 (nI (n + 1))) := by
  have ok : mOkP md_X6_pushOperator := ok_at 65 (by decide) rfl
  refine mC_of (md := md_X6_pushOperator) rfl (lt_at (by decide)) rfl ?_
  refine mGo_run (n := 400) ok rfl ?_
  rw [h]
  refine mGo_ifI ok rfl (nI_leI (a := 40) (b := n) (by omega) (by omega)) (fun h1 => ?_) (fun h1 => ?_)
  · omega
  · refine mGo_run (n := 400) ok rfl ?_
    rw [h]
    refine mGo_side ok rfl (nI_in (by omega) (by omega)) ?_
    rw [nI_clamp (by omega)]
    refine mGo_run (n := 400) ok rfl ?_
    rw [show (mWI σ 11 n v).1 10 3 = nI n by rw [WI_at, if_neg (by omega)]; exact h, nI_1]
    exact mGo_ret ok rfl trivial (⟨rfl, rfl, rfl⟩)
theorem c_pushOperand {n : Nat} (h : σ.1 10 4 = nI n) (hn : n < 40) (v : Int32) : mNV g l d 66 [.ref 10, .int v] lk ex σ (fun σ1 => σ1 = mWI (mWI σ 12 n v) 10 4 (nI (n + 1))) := by
  have ok : mOkP md_X6_pushOperand := ok_at 66 (by decide) rfl
  refine mC_of (md := md_X6_pushOperand) rfl (lt_at (by decide)) rfl ?_
  refine mGo_run (n := 400) ok rfl ?_
  rw [h]
  refine mGo_ifI ok rfl (nI_leI (a := 40) (b := n) (by omega) (by omega)) (fun h1 => ?_) (fun h1 => ?_)
  · omega
  · refine mGo_run (n := 400) ok rfl ?_
    rw [h]
    refine mGo_side ok rfl (nI_in (by omega) (by omega)) ?_
    rw [nI_clamp (by omega)]
    refine mGo_run (n := 400) ok rfl ?_
    rw [show (mWI σ 12 n v).1 10 4 = nI n by rw [WI_at, if_neg (by omega)]; exact h, nI_1]
    exact mGo_ret ok rfl trivial (⟨rfl, rfl, rfl⟩)
theorem c_pushOperand1 (h : σ.1 10 4 = nI 40) (v : Int32) : mNV g l d 66 [.ref 10, .int v] lk ex σ (fun σ1 => σ1 = σ) := by
  have ok : mOkP md_X6_pushOperand := ok_at 66 (by decide) rfl
  refine mC_of (md := md_X6_pushOperand) rfl (lt_at (by decide)) rfl ?_
  refine mGo_run (n := 400) ok rfl ?_
  rw [h]
  refine mGo_ifI ok rfl (nI_leI (a := 40) (b := 40) (by omega) (by omega)) (fun h1 => ?_) (fun h1 => ?_)
  · refine mGo_run (n := 400) ok rfl ?_
    exact mGo_ret ok rfl trivial (⟨rfl, rfl, rfl⟩)
  · omega
/-- writing among the reader's own things leaves the formulas -/
theorem cF_W {i j : Nat} {v : Int32} (hi : 10 ≤ i) (hc : cF σ F) : cF (mWI σ i j v) F := cF_fr (lo := 10) (hi := i + 1) ((fr.refl.WI (by omega) (by omega))) (by omega) hc
theorem cS_W {i j : Nat} {v : Int32} (hi : 10 ≤ i) (hs : cS σ F) : cS (mWI σ i j v) F := by
  intro k hk
  have e5 : (mWI σ i j v).1 5 = σ.1 5 := by funext w; rw [WI_at, if_neg (by omega)]
  have e6 : (mWI σ i j v).1 6 = σ.1 6 := by funext w; rw [WI_at, if_neg (by omega)]
  rw [e5, e6]
  exact hs k hk
/-- no room: whatever is asked for, the formulas stay -/
theorem c_make_full (hf : fOk F) (hc : cF σ F) (hs : cS σ F) (h40 : aN F = 40) {c : Nat} (hk : 1 ≤ c ∧ c ≤ 4) (x y : Int32) (hy : c = 1 → y = -1) : mC g l (d + 1) 26 [.ref 1, .int (nI c), .int x, .int y] (SH lk ex) σ (fun r sp σ1 => ∃ v, r = some (.int v) ∧ sp = SH lk ex ∧ fr 1 8 σ σ1 ∧ cF σ1 F ∧ cS σ1 F) := by
  by_cases hx : ∃ j, j < aN F ∧ x = nI j
  · obtain ⟨a, ha, rfl⟩ := hx
    have ok : ∀ b, b < aN F → (c = 1 → b = 0) → (if c < 2 then -1 else nI b) = y → mC g l (d + 1) 26 [.ref 1, .int (nI c), .int (nI a), .int y] (SH lk ex) σ (fun r sp σ1 => ∃ v, r = some (.int v) ∧ sp = SH lk ex ∧ fr 1 8 σ σ1 ∧ cF σ1 F ∧ cS σ1 F) := by
      intro b hb hb1 e
      subst e
      have e2 : (aMk F c a b).2 = F := by
        unfold aMk
        cases fF F c a b with
        | some j => rfl
        | none => simp only [if_neg (show ¬ aN F < 40 by omega)]
      have := c_make (g := g) (l := l) (d := d) (lk := lk) (ex := ex) hf hc hs hk ha hb hb1
      rw [e2] at this
      exact mC_mono this (fun r sp σ1 q => ⟨_, q.1, q.2.1, q.2.2⟩)
    by_cases h1 : c = 1
    · exact ok 0 (by omega) (fun _ => rfl) (by rw [if_pos (by omega), hy h1])
    · by_cases hy2 : ∃ j, j < aN F ∧ y = nI j
      · obtain ⟨b, hb, rfl⟩ := hy2
        exact ok b hb (fun z => absurd z h1) (by rw [if_neg (by omega)])
      · exact mC_mono (c_make_bad2 (g := g) (l := l) (d := d) (lk := lk) (ex := ex) hc.1 hf.2.1 (k := nI c) (fun z => h1 ((nI_eq (a := c) (b := 1) (by omega) (by omega)).mp z)) ha hy2) (fun r sp σ1 q => ⟨_, q.1, q.2.1, by rw [q.2.2]; exact ⟨fr.refl, hc, hs⟩⟩)
  · exact mC_mono (c_make_bad1 (g := g) (l := l) (d := d) (lk := lk) (ex := ex) hc.1 hf.2.1 hx) (fun r sp σ1 q => ⟨_, q.1, q.2.1, by rw [q.2.2]; exact ⟨fr.refl, hc, hs⟩⟩)
end T
