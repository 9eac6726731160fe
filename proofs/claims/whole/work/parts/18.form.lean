/-! the class Formulas -/
theorem b01 (c : Prop) [Decidable c] : (if c then (1 : Int32) else 0) = 0 ∨ (if c then (1 : Int32) else 0) = 1 := by split <;> simp
/-- an int in a range is a number -/
theorem i_in {f : Int32} {n : Nat} (hn : n < 2 ^ 31) : (0 ≤ f ∧ f < nI n) ↔ ∃ j, j < n ∧ f = nI j := by
  constructor
  · rintro ⟨h1, h2⟩
    obtain ⟨j, hj, rfl⟩ := nI_of (x := f) (Int32.not_lt.mpr h1)
    exact ⟨j, (nI_ltI hj hn).mp h2, rfl⟩
  · rintro ⟨j, hj, rfl⟩
    exact ⟨nI_pos' (by omega), (nI_ltI (by omega) hn).mpr hj⟩
/-- formulas: how many, kinds, parts A and B (of a negation B is 0, of an atom both are) -/
abbrev aF : Type := Nat × (Nat → Nat) × (Nat → Nat) × (Nat → Nat)
abbrev aN (F : aF) : Nat := F.1
abbrev aK (F : aF) : Nat → Nat := F.2.1
abbrev aA (F : aF) : Nat → Nat := F.2.2.1
abbrev aB (F : aF) : Nat → Nat := F.2.2.2
def fOk (F : aF) : Prop := 4 ≤ aN F ∧ aN F ≤ 40 ∧ ∀ j, j < aN F → (aK F j = 0 ↔ j < 4) ∧ aK F j ≤ 4 ∧ (aK F j ≠ 0 → aA F j < j) ∧ (2 ≤ aK F j → aB F j < j) ∧ (aK F j < 2 → aB F j = 0) ∧ (aK F j = 0 → aA F j = 0)
def cF (σ : mHp) (F : aF) : Prop := σ.1 1 6 = nI (aN F) ∧ ∀ j, j < aN F → σ.1 2 j = nI (aK F j) ∧ σ.1 3 j = (if aK F j = 0 then -1 else nI (aA F j)) ∧ σ.1 4 j = (if aK F j < 2 then -1 else nI (aB F j))
/-- the first number from k on, of m, with a property -/
def fnd (p : Nat → Prop) [DecidablePred p] : Nat → Nat → Option Nat
  | _, 0 => none
  | k, m + 1 => if p k then some k else fnd p (k + 1) m
theorem fnd_some {p : Nat → Prop} [DecidablePred p] : ∀ {m k j : Nat}, fnd p k m = some j → k ≤ j ∧ j < k + m ∧ p j ∧ ∀ i, k ≤ i → i < j → ¬ p i := by
  intro m
  induction m with
  | zero => intro k j h; simp [fnd] at h
  | succ m ih =>
    intro k j h
    simp only [fnd] at h
    by_cases hp : p k
    · rw [if_pos hp] at h; cases h; exact ⟨Nat.le_refl _, by omega, hp, fun i h1 h2 => by omega⟩
    · rw [if_neg hp] at h
      obtain ⟨h1, h2, h3, h4⟩ := ih h
      exact ⟨by omega, by omega, h3, fun i g1 g2 => by
        rcases Nat.eq_or_lt_of_le g1 with q | q
        · subst q; exact hp
        · exact h4 i q g2⟩
theorem fnd_none {p : Nat → Prop} [DecidablePred p] : ∀ {m k : Nat}, fnd p k m = none → ∀ i, k ≤ i → i < k + m → ¬ p i := by
  intro m
  induction m with
  | zero => intro k h i h1 h2; omega
  | succ m ih =>
    intro k h i h1 h2
    simp only [fnd] at h
    by_cases hp : p k
    · rw [if_pos hp] at h; cases h
    · rw [if_neg hp] at h
      rcases Nat.eq_or_lt_of_le h1 with q | q
      · subst q; exact hp
      · exact ih h i q (by omega)
theorem fnd_congr {p q : Nat → Prop} [DecidablePred p] [DecidablePred q] : ∀ {m k : Nat}, (∀ i, k ≤ i → i < k + m → (p i ↔ q i)) → fnd p k m = fnd q k m := by
  intro m
  induction m with
  | zero => intro k h; rfl
  | succ m ih =>
    intro k h
    have e := h k (Nat.le_refl _) (by omega)
    simp only [fnd]
    rw [ih (fun i h1 h2 => h i (by omega) (by omega))]
    by_cases hp : p k
    · rw [if_pos hp, if_pos (e.mp hp)]
    · rw [if_neg hp, if_neg (fun z => hp (e.mpr z))]
section T
variable {g : mG} {l : Launch} {d : Nat} {lk : Nat} {ex : mSh} {σ : mHp} {n : Nat} {F : aF}
theorem c_has (f : Int32) : mNP g l d 19 [.ref 1, .int f] lk ex σ (.int (if 0 ≤ f ∧ f < σ.1 1 6 then 1 else 0)) := by
  have ok : mOkP md_X2_has := ok_at 19 (by decide) rfl
  refine mC_of (md := md_X2_has) rfl (lt_at (by decide)) rfl ?_
  refine mGo_run (n := 400) ok rfl ?_
  refine mGo_if ok rfl (fun h => ?_) (fun h => ?_)
  · refine mGo_run (n := 400) ok rfl ?_
    have e : (if 0 ≤ f ∧ f < σ.1 1 6 then (1 : Int32) else 0) = 0 := if_neg (fun q => absurd h (Int32.not_lt.mpr q.1))
    rw [e]
    exact mGo_ret ok rfl (Or.inl rfl) (⟨rfl, rfl, rfl⟩)
  · refine mGo_run (n := 400) ok rfl ?_
    refine mGo_if ok rfl (fun h1 => ?_) (fun h1 => ?_)
    · refine mGo_run (n := 400) ok rfl ?_
      have e : (if 0 ≤ f ∧ f < σ.1 1 6 then (1 : Int32) else 0) = 0 := if_neg (fun q => absurd q.2 (Int32.not_lt.mpr h1))
      rw [e]
      exact mGo_ret ok rfl (Or.inl rfl) (⟨rfl, rfl, rfl⟩)
    · refine mGo_run (n := 400) ok rfl ?_
      have e : (if 0 ≤ f ∧ f < σ.1 1 6 then (1 : Int32) else 0) = 1 := if_pos ⟨Int32.not_lt.mp h, Int32.not_le.mp h1⟩
      rw [e]
      exact mGo_ret ok rfl (Or.inr rfl) (⟨rfl, rfl, rfl⟩)
theorem c_has1 (hc : σ.1 1 6 = nI n) (hn : n ≤ 40) {j : Nat} (hj : j < n) : mNP g l d 19 [.ref 1, .int (nI j)] lk ex σ (.int 1) := by
  have h := c_has (g := g) (l := l) (d := d) (lk := lk) (ex := ex) (σ := σ) (nI j)
  rw [hc, if_pos ((i_in (by omega)).mpr ⟨j, hj, rfl⟩)] at h
  exact h
theorem c_has0 (hc : σ.1 1 6 = nI n) (hn : n ≤ 40) {f : Int32} (hf : ¬ ∃ j, j < n ∧ f = nI j) : mNP g l d 19 [.ref 1, .int f] lk ex σ (.int 0) := by
  have h := c_has (g := g) (l := l) (d := d) (lk := lk) (ex := ex) (σ := σ) f
  rw [hc, if_neg (fun q => hf ((i_in (by omega)).mp q))] at h
  exact h
theorem c_kindOf (hn : aN F ≤ 40) (hc : cF σ F) {j : Nat} (hj : j < aN F) : mNP g l d 20 [.ref 1, .int (nI j)] lk ex σ (.int (nI (aK F j))) := by
  have ok : mOkP md_X2_kindOf := ok_at 20 (by decide) rfl
  refine mC_of (md := md_X2_kindOf) rfl (lt_at (by decide)) rfl ?_
  refine mGo_run (n := 400) ok rfl ?_
  refine mGo_if ok rfl (fun h => ?_) (fun h => ?_)
  · exact absurd h (nI_pos (by omega))
  · refine mGo_run (n := 400) ok rfl ?_
    refine mGo_if ok rfl (fun h1 => ?_) (fun h1 => ?_)
    · rw [hc.1] at h1
      exact absurd h1 (nI_ge hj (by omega))
    · refine mGo_run (n := 400) ok rfl ?_
      refine mGo_side ok rfl (nI_in (by omega) (by omega)) ?_
      refine mGo_run (n := 400) ok rfl ?_
      exact mGo_ret ok rfl trivial (⟨by rw [nI_clamp (by omega), (hc.2 j hj).1], rfl, rfl⟩)
theorem c_firstOf (hn : aN F ≤ 40) (hc : cF σ F) {j : Nat} (hj : j < aN F) : mNP g l d 21 [.ref 1, .int (nI j)] lk ex σ (.int (if aK F j = 0 then -1 else nI (aA F j))) := by
  have ok : mOkP md_X2_firstOf := ok_at 21 (by decide) rfl
  refine mC_of (md := md_X2_firstOf) rfl (lt_at (by decide)) rfl ?_
  refine mGo_run (n := 400) ok rfl ?_
  refine mGo_if ok rfl (fun h => ?_) (fun h => ?_)
  · exact absurd h (nI_pos (by omega))
  · refine mGo_run (n := 400) ok rfl ?_
    refine mGo_if ok rfl (fun h1 => ?_) (fun h1 => ?_)
    · rw [hc.1] at h1
      exact absurd h1 (nI_ge hj (by omega))
    · refine mGo_run (n := 400) ok rfl ?_
      refine mGo_side ok rfl (nI_in (by omega) (by omega)) ?_
      refine mGo_run (n := 400) ok rfl ?_
      exact mGo_ret ok rfl trivial (⟨by rw [nI_clamp (by omega), (hc.2 j hj).2.1], rfl, rfl⟩)
theorem c_secondOf (hn : aN F ≤ 40) (hc : cF σ F) {j : Nat} (hj : j < aN F) : mNP g l d 22 [.ref 1, .int (nI j)] lk ex σ (.int (if aK F j < 2 then -1 else nI (aB F j))) := by
  have ok : mOkP md_X2_secondOf := ok_at 22 (by decide) rfl
  refine mC_of (md := md_X2_secondOf) rfl (lt_at (by decide)) rfl ?_
  refine mGo_run (n := 400) ok rfl ?_
  refine mGo_if ok rfl (fun h => ?_) (fun h => ?_)
  · exact absurd h (nI_pos (by omega))
  · refine mGo_run (n := 400) ok rfl ?_
    refine mGo_if ok rfl (fun h1 => ?_) (fun h1 => ?_)
    · rw [hc.1] at h1
      exact absurd h1 (nI_ge hj (by omega))
    · refine mGo_run (n := 400) ok rfl ?_
      refine mGo_side ok rfl (nI_in (by omega) (by omega)) ?_
      refine mGo_run (n := 400) ok rfl ?_
      exact mGo_ret ok rfl trivial (⟨by rw [nI_clamp (by omega), (hc.2 j hj).2.2], rfl, rfl⟩)
/-- how many attacks there are on a formula of a kind -/
def atk (k : Nat) : Nat := if k = 0 then 0 else if k = 2 then 2 else 1
theorem c_attacksOn (hf : fOk F) (hc : cF σ F) {j : Nat} (hj : j < aN F) : mNP g l (d + 1) 23 [.ref 1, .int (nI j)] lk ex σ (.int (nI (atk (aK F j)))) := by
  obtain ⟨h4, h40, hw⟩ := hf
  have hk : aK F j ≤ 4 := (hw j hj).2.1
  have ok : mOkP md_X2_attacksOn := ok_at 23 (by decide) rfl
  refine mC_of (md := md_X2_attacksOn) rfl (lt_at (by decide)) rfl ?_
  refine mGo_run (n := 400) ok rfl ?_
  refine mGo_callP ok rfl (by omega) (c_kindOf (d := d) h40 hc hj) ?_
  refine mGo_run (n := 400) ok rfl ?_
  refine mGo_if ok rfl (fun h => ?_) (fun h => ?_)
  · have e : aK F j = 0 := (nI_eq (a := aK F j) (b := 0) (by omega) (by omega)).mp h
    refine mGo_run (n := 400) ok rfl ?_
    exact mGo_ret ok rfl trivial (⟨by rw [e]; rfl, rfl, rfl⟩)
  · have e : aK F j ≠ 0 := fun z => h (by rw [z]; rfl)
    refine mGo_run (n := 400) ok rfl ?_
    refine mGo_if ok rfl (fun h1 => ?_) (fun h1 => ?_)
    · have e1 : aK F j = 2 := (nI_eq (a := aK F j) (b := 2) (by omega) (by omega)).mp h1
      refine mGo_run (n := 400) ok rfl ?_
      exact mGo_ret ok rfl trivial (⟨by rw [e1]; rfl, rfl, rfl⟩)
    · have e1 : aK F j ≠ 2 := fun z => h1 (by rw [z]; rfl)
      refine mGo_run (n := 400) ok rfl ?_
      exact mGo_ret ok rfl trivial (⟨by rw [atk, if_neg e, if_neg e1]; rfl, rfl, rfl⟩)
theorem c_shrinkTo (hc : σ.1 1 6 = nI n) (hn : n ≤ 40) {k : Nat} (h4 : 4 ≤ k) (hk : k ≤ n) : mNV g l d 24 [.ref 1, .int (nI k)] lk ex σ (fun σ1 => σ1 = mWI σ 1 6 (nI k)) := by
  have ok : mOkP md_X2_shrinkTo := ok_at 24 (by decide) rfl
  refine mC_of (md := md_X2_shrinkTo) rfl (lt_at (by decide)) rfl ?_
  refine mGo_run (n := 400) ok rfl ?_
  refine mGo_if ok rfl (fun h => ?_) (fun h => ?_)
  · exact absurd ((nI_ltI (a := k) (b := 4) (by omega) (by omega)).mp h) (by omega)
  · refine mGo_run (n := 400) ok rfl ?_
    refine mGo_if ok rfl (fun h1 => ?_) (fun h1 => ?_)
    · rw [hc] at h1
      exact absurd ((nI_ltI (a := n) (b := k) (by omega) (by omega)).mp h1) (by omega)
    · refine mGo_run (n := 400) ok rfl ?_
      exact mGo_ret ok rfl trivial (⟨rfl, rfl, rfl⟩)
/-- the first formula with a kind and parts -/
def fF (F : aF) (k a b : Nat) : Option Nat := fnd (fun j => aK F j = k ∧ aA F j = a ∧ aB F j = b) 4 (aN F - 4)
def oI (o : Option Nat) : Int32 := match o with
  | none => -1
  | some j => nI j
theorem c_find (hf : fOk F) (hc : cF σ F) {k a b : Nat} (hk : 1 ≤ k ∧ k ≤ 4) (ha : a < aN F) (hb : b < aN F) (hb1 : k = 1 → b = 0) : mNP g l d 27 [.ref 1, .int (nI k), .int (nI a), .int (if k < 2 then -1 else nI b)] lk ex σ (.int (oI (fF F k a b))) := by
  obtain ⟨h4, h40, hw⟩ := hf
  have ok : mOkP md_X2_find := ok_at 27 (by decide) rfl
  refine mC_of (md := md_X2_find) rfl (lt_at (by decide)) rfl ?_
  refine mGo_runS 3 (n := 400) ok rfl ?_
  have loop : ∀ m i : Nat, i + m = aN F → 4 ≤ i → mGo g l d md_X2_find (SH lk ex).length (mTot (SH lk ex)) (3, [some (.ref 1), some (.int (nI k)), some (.int (nI a)), some (.int (if k < 2 then -1 else nI b)), some (.int (nI i))], [], SH lk ex, σ) (fun r sp σ1 => r = some (.int (oI (fnd (fun j => aK F j = k ∧ aA F j = a ∧ aB F j = b) i m))) ∧ sp = SH lk ex ∧ σ1 = σ) := by
    intro m
    induction m with
    | zero =>
      intro i hi h4i
      refine mGo_run (n := 400) ok rfl ?_
      refine mGo_if ok rfl (fun h => ?_) (fun h => ?_)
      · refine mGo_run (n := 400) ok rfl ?_
        exact mGo_ret ok rfl trivial (⟨rfl, rfl, rfl⟩)
      · rw [hc.1] at h
        exact absurd (nI_le (show aN F ≤ i by omega) (by omega)) h
    | succ m ih =>
      intro i hi h4i
      have hin : i < aN F := by omega
      obtain ⟨w1, w2, w3, w4, w5, w6⟩ := hw i hin
      obtain ⟨c1, c2, c3⟩ := hc.2 i hin
      have hK0 : aK F i ≠ 0 := fun z => by have := w1.mp z; omega
      have hA : aA F i < i := w3 hK0
      have next : ¬ (aK F i = k ∧ aA F i = a ∧ aB F i = b) → mGo g l d md_X2_find (SH lk ex).length (mTot (SH lk ex)) (3, [some (.ref 1), some (.int (nI k)), some (.int (nI a)), some (.int (if k < 2 then -1 else nI b)), some (.int (nI (i + 1)))], [], SH lk ex, σ) (fun r sp σ1 => r = some (.int (oI (fnd (fun j => aK F j = k ∧ aA F j = a ∧ aB F j = b) i (m + 1)))) ∧ sp = SH lk ex ∧ σ1 = σ) := by
        intro hne
        simp only [fnd, if_neg hne]
        exact ih (i + 1) (by omega) (by omega)
      refine mGo_run (n := 400) ok rfl ?_
      refine mGo_if ok rfl (fun h => ?_) (fun h => ?_)
      · rw [hc.1] at h
        exact absurd h (nI_ge hin (by omega))
      · refine mGo_run (n := 400) ok rfl ?_
        refine mGo_side ok rfl (nI_in (by omega) (by omega)) ?_
        refine mGo_run (n := 400) ok rfl ?_
        refine mGo_if ok rfl (fun h1 => ?_) (fun h1 => ?_)
        · rw [nI_clamp (by omega), c1, nI_eq (by omega) (by omega)] at h1
          refine mGo_run (n := 400) ok rfl ?_
          refine mGo_side ok rfl (nI_in (by omega) (by omega)) ?_
          refine mGo_run (n := 400) ok rfl ?_
          refine mGo_if ok rfl (fun h2 => ?_) (fun h2 => ?_)
          · rw [nI_clamp (by omega), c2, if_neg hK0, nI_eq (by omega) (by omega)] at h2
            refine mGo_run (n := 400) ok rfl ?_
            refine mGo_side ok rfl (nI_in (by omega) (by omega)) ?_
            refine mGo_run (n := 400) ok rfl ?_
            refine mGo_if ok rfl (fun h3 => ?_) (fun h3 => ?_)
            · rw [nI_clamp (by omega), c3, h1] at h3
              have e3 : aB F i = b := by
                by_cases hk2 : k < 2
                · rw [w5 (by omega), hb1 (by omega)]
                · rw [if_neg hk2, if_neg hk2, nI_eq (by have := w4 (by omega); omega) (by omega)] at h3
                  exact h3
              refine mGo_run (n := 400) ok rfl ?_
              exact mGo_ret ok rfl trivial (⟨by simp only [fnd, if_pos (show aK F i = k ∧ aA F i = a ∧ aB F i = b from ⟨h1, h2, e3⟩)]; rfl, rfl, rfl⟩)
            · refine mGo_runS 3 (n := 400) ok rfl ?_
              rw [nI_1]
              refine next (fun z => h3 ?_)
              rw [nI_clamp (by omega), c3, z.1, z.2.2]
          · refine mGo_runS 3 (n := 400) ok rfl ?_
            rw [nI_1]
            refine next (fun z => h2 ?_)
            rw [nI_clamp (by omega), c2, if_neg hK0, z.2.1]
        · refine mGo_runS 3 (n := 400) ok rfl ?_
          rw [nI_1]
          refine next (fun z => h1 ?_)
          rw [nI_clamp (by omega), c1, z.1]
  exact loop (aN F - 4) 4 (by omega) (by omega)
end T
