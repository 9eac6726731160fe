/-! positions, moves, replies; the class Board -/
def canC (c : Int64) (f : Nat) : Bool := decide (4 ≤ f) || tb c f
/-- claims of open defences: m formulas from k on -/
def clM (c o : Int64) : Nat → Nat → List (Nat × Nat)
  | _, 0 => []
  | k, m + 1 => (if tb o k = true ∧ canC c k = true then [(0, k)] else []) ++ clM c o (k + 1) m
def atK (F : aF) (c : Int64) (k : Nat) : List (Nat × Nat) := if aK F k = 2 then [(2, k), (3, k)] else if aK F k = 3 ∨ canC c (aA F k) = true then [(1, k)] else []
def atM (F : aF) (c : Int64) : Nat → Nat → List (Nat × Nat)
  | _, 0 => []
  | k, m + 1 => (if tb c k = true then atK F c k else []) ++ atM F c (k + 1) m
/-- the moves of a position, in their order: type and formula -/
def mvs (F : aF) (c o : Int64) : List (Nat × Nat) := clM c o 0 (aN F) ++ atM F c 4 (aN F - 4)
theorem clM_len (c o : Int64) : ∀ m k, (clM c o k m).length ≤ m := by
  intro m
  induction m with
  | zero => intro k; simp [clM]
  | succ m ih =>
    intro k
    simp only [clM, List.length_append]
    have := ih (k + 1)
    split <;> simp <;> omega
theorem atK_len (F : aF) (c : Int64) (k : Nat) : (atK F c k).length ≤ 2 := by
  unfold atK
  split
  · simp
  · split <;> simp
theorem atM_len (F : aF) (c : Int64) : ∀ m k, (atM F c k m).length ≤ 2 * m := by
  intro m
  induction m with
  | zero => intro k; simp [atM]
  | succ m ih =>
    intro k
    simp only [atM, List.length_append]
    have := ih (k + 1)
    have := atK_len F c k
    split
    · omega
    · simp; omega
theorem mvs_len {F : aF} (hf : fOk F) (c o : Int64) : (mvs F c o).length ≤ 112 := by
  have := clM_len c o (aN F) 0
  have := atM_len F c (aN F - 4) 4
  have := hf.1
  have := hf.2.1
  simp only [mvs, List.length_append]
  omega
theorem clM_nil {c o : Int64} : ∀ m k, (∀ j, k ≤ j → tb o j = false) → clM c o k m = [] := by
  intro m
  induction m with
  | zero => intro k h; rfl
  | succ m ih =>
    intro k h
    simp only [clM]
    rw [ih (k + 1) (fun j hj => h j (by omega)), if_neg (by rw [h k (Nat.le_refl _)]; simp)]
    rfl
theorem atM_nil {F : aF} {c : Int64} : ∀ m k, (∀ j, k ≤ j → tb c j = false) → atM F c k m = [] := by
  intro m
  induction m with
  | zero => intro k h; rfl
  | succ m ih =>
    intro k h
    simp only [atM]
    rw [ih (k + 1) (fun j hj => h j (by omega)), if_neg (by rw [h k (Nat.le_refl _)]; simp)]
    rfl
theorem clM_mem {c o : Int64} : ∀ {m k : Nat} {q : Nat × Nat}, q ∈ clM c o k m → q.1 = 0 ∧ k ≤ q.2 ∧ q.2 < k + m ∧ tb o q.2 = true ∧ canC c q.2 = true := by
  intro m
  induction m with
  | zero => intro k q h; simp [clM] at h
  | succ m ih =>
    intro k q h
    simp only [clM, List.mem_append] at h
    rcases h with h | h
    · split at h
      · rename_i hh
        simp at h; subst h
        exact ⟨rfl, Nat.le_refl _, by omega, hh.1, hh.2⟩
      · simp at h
    · obtain ⟨h1, h2, h3, h4, h5⟩ := ih h
      exact ⟨h1, by omega, by omega, h4, h5⟩
theorem atM_mem {F : aF} {c : Int64} : ∀ {m k : Nat} {q : Nat × Nat}, q ∈ atM F c k m → (k ≤ q.2 ∧ q.2 < k + m ∧ tb c q.2 = true) ∧ ((aK F q.2 = 2 ∧ (q.1 = 2 ∨ q.1 = 3)) ∨ (aK F q.2 ≠ 2 ∧ q.1 = 1 ∧ (aK F q.2 = 3 ∨ canC c (aA F q.2) = true))) := by
  intro m
  induction m with
  | zero => intro k q h; simp [atM] at h
  | succ m ih =>
    intro k q h
    simp only [atM, List.mem_append] at h
    rcases h with h | h
    · split at h
      · rename_i hh
        unfold atK at h
        split at h
        · rename_i h2
          simp at h
          rcases h with rfl | rfl
          · exact ⟨⟨Nat.le_refl _, by omega, hh⟩, Or.inl ⟨h2, Or.inl rfl⟩⟩
          · exact ⟨⟨Nat.le_refl _, by omega, hh⟩, Or.inl ⟨h2, Or.inr rfl⟩⟩
        · rename_i h2
          split at h
          · rename_i h3
            simp at h; subst h
            exact ⟨⟨Nat.le_refl _, by omega, hh⟩, Or.inr ⟨h2, rfl, h3⟩⟩
          · simp at h
      · simp at h
    · obtain ⟨⟨h1, h2, h3⟩, h4⟩ := ih h
      exact ⟨⟨by omega, by omega, h3⟩, h4⟩
/-- replies to a move -/
def rpN (F : aF) (q : Nat × Nat) : Nat := if q.1 = 0 then atk (aK F q.2) else if aK F q.2 = 1 then atk (aK F (aA F q.2)) else if aK F q.2 = 2 then 1 else if aK F q.2 = 3 then 2 else atk (aK F (aA F q.2)) + 1
/-- an attack on a formula that the proponent has claimed -/
def atP2 (F : aF) (man : Nat) (c o : Int64) (f r : Nat) : Int64 × Int64 :=
  let cl : Int64 := if aK F f = 1 ∨ aK F f = 4 then bit (aA F f) else 0
  let df : Int64 := if aK F f = 2 then (if r = 0 then bit (aA F f) else bit (aB F f)) else if aK F f = 3 then bit (aA F f) ||| bit (aB F f) else if aK F f = 4 then bit (aB F f) else 0
  (c ||| cl, if man = 1 then o ||| df else df)
/-- the position after a move and a reply -/
def rpP (F : aF) (man : Nat) (c o : Int64) (q : Nat × Nat) (r : Nat) : Int64 × Int64 :=
  if q.1 = 0 then atP2 F man c o q.2 r
  else if q.1 = 2 then (c ||| bit (aA F q.2), o)
  else if q.1 = 3 then (c ||| bit (aB F q.2), o)
  else if aK F q.2 = 3 then (c ||| bit (if r = 0 then aA F q.2 else aB F q.2), o)
  else if r < atk (aK F (aA F q.2)) then atP2 F man c o (aA F q.2) r
  else (c ||| bit (aB F q.2), o)
/-- the moves that a board holds -/
def bM (σ : mHp) (b : Nat) (ms : List (Nat × Nat)) : Prop := σ.1 b 3 = nI ms.length ∧ ∀ (i : Nat) (q : Nat × Nat), ms[i]? = some q → σ.1 (b + 1) i = nI q.1 ∧ σ.1 (b + 2) i = nI q.2
/-- only a board's list of moves has changed -/
def frB (b : Nat) (σ σ1 : mHp) : Prop := fr b (b + 3) σ σ1 ∧ (∀ k, k ≠ 3 → σ1.1 b k = σ.1 b k) ∧ σ1.2.1 b = σ.2.1 b
theorem frB.refl {b : Nat} {σ : mHp} : frB b σ σ := ⟨fr.refl, fun _ _ => rfl, rfl⟩
theorem frB.trans {b : Nat} {σ σ1 σ2 : mHp} (h1 : frB b σ σ1) (h2 : frB b σ1 σ2) : frB b σ σ2 := ⟨h1.1.trans h2.1, fun k hk => (h2.2.1 k hk).trans (h1.2.1 k hk), h2.2.2.trans h1.2.2⟩
theorem cF_fr {lo hi : Nat} {σ σ1 : mHp} {F : aF} (h : fr lo hi σ σ1) (hlo : 8 ≤ lo ∨ hi ≤ 1) (hm : cF σ F) : cF σ1 F := by
  have e : ∀ i, 1 ≤ i → i < 8 → σ1.1 i = σ.1 i := fun i h1 h2 => (h i (by omega)).1
  rw [cF, e 1 (by omega) (by omega), e 2 (by omega) (by omega), e 3 (by omega) (by omega), e 4 (by omega) (by omega)]
  exact hm
section T
variable {g : mG} {l : Launch} {d : Nat} {lk : Nat} {ex : mSh} {σ : mHp} {F : aF}
theorem c_bitOf {j : Nat} (hj : j < 2 ^ 31) : mNP g l d 10 [.int (nI j)] lk ex σ (.long (bit j)) := by
  have ok : mOkP md_X0_bitOf := ok_at 10 (by decide) rfl
  refine mC_of (md := md_X0_bitOf) rfl (lt_at (by decide)) rfl ?_
  refine mGo_run (n := 400) ok rfl ?_
  refine mGo_if ok rfl (fun h => ?_) (fun h => ?_)
  · exact absurd h (nI_pos hj)
  · refine mGo_run (n := 400) ok rfl ?_
    exact mGo_ret ok rfl trivial (⟨rfl, rfl, rfl⟩)
theorem c_bitOf0 : mNP g l d 10 [.int (-1)] lk ex σ (.long 0) := by
  have ok : mOkP md_X0_bitOf := ok_at 10 (by decide) rfl
  refine mC_of (md := md_X0_bitOf) rfl (lt_at (by decide)) rfl ?_
  refine mGo_run (n := 400) ok rfl ?_
  refine mGo_if ok rfl (fun h => ?_) (fun h => ?_)
  · refine mGo_run (n := 400) ok rfl ?_
    exact mGo_ret ok rfl trivial (⟨rfl, rfl, rfl⟩)
  · exact absurd (by decide) h
theorem c_addMove18 {ms : List (Nat × Nat)} (hb : bM σ 18 ms) (hl : ms.length < 120) (ty f : Nat) : mNV g l d 3 [.ref 18, .int (nI ty), .int (nI f)] lk ex σ (fun σ1 => frB 18 σ σ1 ∧ bM σ1 18 (ms ++ [(ty, f)])) := by
  have ok : mOkP md_X0_addMove := ok_at 3 (by decide) rfl
  refine mC_of (md := md_X0_addMove) rfl (lt_at (by decide)) rfl ?_
  have cl : (nI ms.length).toNatClampNeg = ms.length := nI_clamp (by omega)
  refine mGo_run (n := 400) ok rfl ?_
  rw [hb.1]
  refine mGo_if ok rfl (fun h => ?_) (fun h => ?_)
  · exact absurd h (nI_ge (a := ms.length) (b := 120) hl (by omega))
  · refine mGo_run (n := 400) ok rfl ?_
    rw [hb.1]
    refine mGo_side ok rfl (nI_in (by omega) (by omega)) ?_
    rw [cl]
    refine mGo_run (n := 400) ok rfl ?_
    rw [show (mWI σ 19 ms.length (nI ty)).1 18 3 = nI ms.length from hb.1]
    refine mGo_side ok rfl (nI_in (by omega) (by omega)) ?_
    rw [cl]
    refine mGo_run (n := 400) ok rfl ?_
    rw [show (mWI (mWI σ 19 ms.length (nI ty)) 20 ms.length (nI f)).1 18 3 = nI ms.length from hb.1, nI_1]
    refine mGo_ret ok rfl trivial ⟨rfl, rfl, ⟨((fr.refl.WI (by decide) (by decide)).WI (by decide) (by decide)).WI (by decide) (by decide), fun k hk => ?_, rfl⟩, ?_, fun i q hq => ?_⟩
    · rw [WI_at, if_neg (fun z => hk z.2), WI_at, if_neg (by omega), WI_at, if_neg (by omega)]
    · simp [WI_at]
    · rcases Nat.lt_or_ge i ms.length with hi | hi
      · rw [List.getElem?_append_left hi] at hq
        obtain ⟨h1, h2⟩ := hb.2 i q hq
        have ne : i ≠ ms.length := by omega
        constructor
        · simpa [WI_at, ne] using h1
        · simpa [WI_at, ne] using h2
      · have hi2 : i = ms.length := by
          have := (List.getElem?_eq_some_iff.mp hq).1
          simp at this
          omega
        subst hi2
        simp at hq
        subst hq
        constructor <;> simp [WI_at]
theorem c_canClaim18 {c : Int64} (hc : σ.2.1 18 5 = c) {f : Nat} (hf : f < 40) : mNP g l (d + 1) 4 [.ref 18, .int (nI f)] lk ex σ (.int (if canC c f = true then 1 else 0)) := by
  have ok : mOkP md_X0_canClaim := ok_at 4 (by decide) rfl
  refine mC_of (md := md_X0_canClaim) rfl (lt_at (by decide)) rfl ?_
  refine mGo_run (n := 400) ok rfl ?_
  refine mGo_if ok rfl (fun h => ?_) (fun h => ?_)
  · have h4 : 4 ≤ f := (nI_leI (a := 4) (b := f) (by omega) (by omega)).mp h
    refine mGo_run (n := 400) ok rfl ?_
    exact mGo_ret ok rfl (Or.inr rfl) (⟨by simp [canC, h4], rfl, rfl⟩)
  · have h4 : ¬ 4 ≤ f := fun z => h ((nI_leI (a := 4) (b := f) (by omega) (by omega)).mpr z)
    refine mGo_run (n := 400) ok rfl ?_
    refine mGo_callP ok rfl (by omega) (c_bitOf (d := d) (j := f) (by omega)) ?_
    refine mGo_run (n := 400) ok rfl ?_
    rw [hc]
    refine mGo_if ok rfl (fun h1 => ?_) (fun h1 => ?_)
    · have e : tb c f = false := (and_bit (by omega)).mp (lg0.mp h1)
      refine mGo_run (n := 400) ok rfl ?_
      exact mGo_ret ok rfl (Or.inl rfl) (⟨by simp [canC, h4, e], rfl, rfl⟩)
    · have e : tb c f = true := by
        cases z : tb c f with
        | true => rfl
        | false => exact absurd (lg0.mpr ((and_bit (by omega)).mpr z)) h1
      refine mGo_run (n := 400) ok rfl ?_
      exact mGo_ret ok rfl (Or.inr rfl) (⟨by simp [canC, e], rfl, rfl⟩)
theorem c_addAttacks18 (hf : fOk F) (hc : cF σ F) {ms : List (Nat × Nat)} (hb : bM σ 18 ms) {c : Int64} (hcl : σ.2.1 18 5 = c) (hl : ms.length + 2 ≤ 120) {f : Nat} (h4 : 4 ≤ f) (hfn : f < aN F) : mNV g l (d + 2) 2 [.ref 18, .int (nI f)] lk ex σ (fun σ1 => frB 18 σ σ1 ∧ bM σ1 18 (ms ++ atK F c f)) := by
  obtain ⟨w1, w2, w3, w4, w5, w6⟩ := hf.2.2 f hfn
  have hn := hf.2.1
  have k0 : aK F f ≠ 0 := fun z => by have := w1.mp z; omega
  have ok : mOkP md_X0_addAttacks := ok_at 2 (by decide) rfl
  refine mC_of (md := md_X0_addAttacks) rfl (lt_at (by decide)) rfl ?_
  refine mGo_run (n := 400) ok rfl ?_
  refine mGo_callP ok rfl (by omega) (c_kindOf (d := d) hf.2.1 hc hfn) ?_
  refine mGo_run (n := 400) ok rfl ?_
  refine mGo_if ok rfl (fun h => ?_) (fun h => ?_)
  · have k2 : aK F f = 2 := (nI_eq (a := aK F f) (b := 2) (by omega) (by omega)).mp h
    refine mGo_run (n := 400) ok rfl ?_
    refine mGo_callV ok rfl (by omega) (c_addMove18 (d := d) hb (by omega) 2 f) (fun σ1 hσ1 => ?_)
    refine mGo_run (n := 400) ok rfl ?_
    refine mGo_callV ok rfl (by omega) (c_addMove18 (d := d) hσ1.2 (by simp; omega) 3 f) (fun σ2 hσ2 => ?_)
    refine mGo_run (n := 400) ok rfl ?_
    exact mGo_ret ok rfl trivial (⟨rfl, rfl, hσ1.1.trans hσ2.1, by have := hσ2.2; rw [List.append_assoc] at this; rw [atK, if_pos k2]; exact this⟩)
  · have k2 : aK F f ≠ 2 := fun z => h (by rw [z]; rfl)
    have add : aK F f = 3 ∨ canC c (aA F f) = true → ∀ v : Value, mGo g l (d + 2) md_X0_addAttacks (SH lk ex).length (mTot (SH lk ex)) (49, [some (.ref 18), some (.int (nI f)), some v], [], SH lk ex, σ) (fun r sp σ1 => r = none ∧ sp = SH lk ex ∧ (frB 18 σ σ1 ∧ bM σ1 18 (ms ++ atK F c f))) := by
      intro hh v
      refine mGo_run (n := 400) ok rfl ?_
      refine mGo_callV ok rfl (by omega) (c_addMove18 (d := d) hb (by omega) 1 f) (fun σ1 hσ1 => ?_)
      refine mGo_run (n := 400) ok rfl ?_
      exact mGo_ret ok rfl trivial (⟨rfl, rfl, hσ1.1, by rw [atK, if_neg k2, if_pos hh]; exact hσ1.2⟩)
    refine mGo_run (n := 400) ok rfl ?_
    refine mGo_if ok rfl (fun h1 => ?_) (fun h1 => ?_)
    · have k3 : aK F f = 3 := (nI_eq (a := aK F f) (b := 3) (by omega) (by omega)).mp h1
      exact add (Or.inl k3) _
    · have k3 : aK F f ≠ 3 := fun z => h1 (by rw [z]; rfl)
      refine mGo_run (n := 400) ok rfl ?_
      refine mGo_callP ok rfl (by omega) (c_firstOf (d := d) hf.2.1 hc hfn) ?_
      refine mGo_run (n := 400) ok rfl ?_
      rw [if_neg k0]
      refine mGo_callP ok rfl (by omega) (c_canClaim18 (d := d) hcl (f := aA F f) (by have := w3 k0; omega)) ?_
      refine mGo_run (n := 400) ok rfl ?_
      refine mGo_if ok rfl (fun h2 => ?_) (fun h2 => ?_)
      · have e : ¬ canC c (aA F f) = true := fun z => by rw [if_pos z] at h2; exact absurd h2 (by decide)
        refine mGo_run (n := 400) ok rfl ?_
        exact mGo_ret ok rfl trivial (⟨rfl, rfl, frB.refl, by rw [atK, if_neg k2, if_neg (by rintro (z | z); exact k3 z; exact e z), List.append_nil]; exact hb⟩)
      · have e : canC c (aA F f) = true := by
          by_cases z : canC c (aA F f) = true
          · exact z
          · rw [if_neg z] at h2; exact absurd rfl h2
        exact add (Or.inr e) _
theorem c_addMove28 {ms : List (Nat × Nat)} (hb : bM σ 28 ms) (hl : ms.length < 120) (ty f : Nat) : mNV g l d 3 [.ref 28, .int (nI ty), .int (nI f)] lk ex σ (fun σ1 => frB 28 σ σ1 ∧ bM σ1 28 (ms ++ [(ty, f)])) := by
  have ok : mOkP md_X0_addMove := ok_at 3 (by decide) rfl
  refine mC_of (md := md_X0_addMove) rfl (lt_at (by decide)) rfl ?_
  have cl : (nI ms.length).toNatClampNeg = ms.length := nI_clamp (by omega)
  refine mGo_run (n := 400) ok rfl ?_
  rw [hb.1]
  refine mGo_if ok rfl (fun h => ?_) (fun h => ?_)
  · exact absurd h (nI_ge (a := ms.length) (b := 120) hl (by omega))
  · refine mGo_run (n := 400) ok rfl ?_
    rw [hb.1]
    refine mGo_side ok rfl (nI_in (by omega) (by omega)) ?_
    rw [cl]
    refine mGo_run (n := 400) ok rfl ?_
    rw [show (mWI σ 29 ms.length (nI ty)).1 28 3 = nI ms.length from hb.1]
    refine mGo_side ok rfl (nI_in (by omega) (by omega)) ?_
    rw [cl]
    refine mGo_run (n := 400) ok rfl ?_
    rw [show (mWI (mWI σ 29 ms.length (nI ty)) 30 ms.length (nI f)).1 28 3 = nI ms.length from hb.1, nI_1]
    refine mGo_ret ok rfl trivial ⟨rfl, rfl, ⟨((fr.refl.WI (by decide) (by decide)).WI (by decide) (by decide)).WI (by decide) (by decide), fun k hk => ?_, rfl⟩, ?_, fun i q hq => ?_⟩
    · rw [WI_at, if_neg (fun z => hk z.2), WI_at, if_neg (by omega), WI_at, if_neg (by omega)]
    · simp [WI_at]
    · rcases Nat.lt_or_ge i ms.length with hi | hi
      · rw [List.getElem?_append_left hi] at hq
        obtain ⟨h1, h2⟩ := hb.2 i q hq
        have ne : i ≠ ms.length := by omega
        constructor
        · simpa [WI_at, ne] using h1
        · simpa [WI_at, ne] using h2
      · have hi2 : i = ms.length := by
          have := (List.getElem?_eq_some_iff.mp hq).1
          simp at this
          omega
        subst hi2
        simp at hq
        subst hq
        constructor <;> simp [WI_at]
theorem c_canClaim28 {c : Int64} (hc : σ.2.1 28 5 = c) {f : Nat} (hf : f < 40) : mNP g l (d + 1) 4 [.ref 28, .int (nI f)] lk ex σ (.int (if canC c f = true then 1 else 0)) := by
  have ok : mOkP md_X0_canClaim := ok_at 4 (by decide) rfl
  refine mC_of (md := md_X0_canClaim) rfl (lt_at (by decide)) rfl ?_
  refine mGo_run (n := 400) ok rfl ?_
  refine mGo_if ok rfl (fun h => ?_) (fun h => ?_)
  · have h4 : 4 ≤ f := (nI_leI (a := 4) (b := f) (by omega) (by omega)).mp h
    refine mGo_run (n := 400) ok rfl ?_
    exact mGo_ret ok rfl (Or.inr rfl) (⟨by simp [canC, h4], rfl, rfl⟩)
  · have h4 : ¬ 4 ≤ f := fun z => h ((nI_leI (a := 4) (b := f) (by omega) (by omega)).mpr z)
    refine mGo_run (n := 400) ok rfl ?_
    refine mGo_callP ok rfl (by omega) (c_bitOf (d := d) (j := f) (by omega)) ?_
    refine mGo_run (n := 400) ok rfl ?_
    rw [hc]
    refine mGo_if ok rfl (fun h1 => ?_) (fun h1 => ?_)
    · have e : tb c f = false := (and_bit (by omega)).mp (lg0.mp h1)
      refine mGo_run (n := 400) ok rfl ?_
      exact mGo_ret ok rfl (Or.inl rfl) (⟨by simp [canC, h4, e], rfl, rfl⟩)
    · have e : tb c f = true := by
        cases z : tb c f with
        | true => rfl
        | false => exact absurd (lg0.mpr ((and_bit (by omega)).mpr z)) h1
      refine mGo_run (n := 400) ok rfl ?_
      exact mGo_ret ok rfl (Or.inr rfl) (⟨by simp [canC, e], rfl, rfl⟩)
theorem c_addAttacks28 (hf : fOk F) (hc : cF σ F) {ms : List (Nat × Nat)} (hb : bM σ 28 ms) {c : Int64} (hcl : σ.2.1 28 5 = c) (hl : ms.length + 2 ≤ 120) {f : Nat} (h4 : 4 ≤ f) (hfn : f < aN F) : mNV g l (d + 2) 2 [.ref 28, .int (nI f)] lk ex σ (fun σ1 => frB 28 σ σ1 ∧ bM σ1 28 (ms ++ atK F c f)) := by
  obtain ⟨w1, w2, w3, w4, w5, w6⟩ := hf.2.2 f hfn
  have hn := hf.2.1
  have k0 : aK F f ≠ 0 := fun z => by have := w1.mp z; omega
  have ok : mOkP md_X0_addAttacks := ok_at 2 (by decide) rfl
  refine mC_of (md := md_X0_addAttacks) rfl (lt_at (by decide)) rfl ?_
  refine mGo_run (n := 400) ok rfl ?_
  refine mGo_callP ok rfl (by omega) (c_kindOf (d := d) hf.2.1 hc hfn) ?_
  refine mGo_run (n := 400) ok rfl ?_
  refine mGo_if ok rfl (fun h => ?_) (fun h => ?_)
  · have k2 : aK F f = 2 := (nI_eq (a := aK F f) (b := 2) (by omega) (by omega)).mp h
    refine mGo_run (n := 400) ok rfl ?_
    refine mGo_callV ok rfl (by omega) (c_addMove28 (d := d) hb (by omega) 2 f) (fun σ1 hσ1 => ?_)
    refine mGo_run (n := 400) ok rfl ?_
    refine mGo_callV ok rfl (by omega) (c_addMove28 (d := d) hσ1.2 (by simp; omega) 3 f) (fun σ2 hσ2 => ?_)
    refine mGo_run (n := 400) ok rfl ?_
    exact mGo_ret ok rfl trivial (⟨rfl, rfl, hσ1.1.trans hσ2.1, by have := hσ2.2; rw [List.append_assoc] at this; rw [atK, if_pos k2]; exact this⟩)
  · have k2 : aK F f ≠ 2 := fun z => h (by rw [z]; rfl)
    have add : aK F f = 3 ∨ canC c (aA F f) = true → ∀ v : Value, mGo g l (d + 2) md_X0_addAttacks (SH lk ex).length (mTot (SH lk ex)) (49, [some (.ref 28), some (.int (nI f)), some v], [], SH lk ex, σ) (fun r sp σ1 => r = none ∧ sp = SH lk ex ∧ (frB 28 σ σ1 ∧ bM σ1 28 (ms ++ atK F c f))) := by
      intro hh v
      refine mGo_run (n := 400) ok rfl ?_
      refine mGo_callV ok rfl (by omega) (c_addMove28 (d := d) hb (by omega) 1 f) (fun σ1 hσ1 => ?_)
      refine mGo_run (n := 400) ok rfl ?_
      exact mGo_ret ok rfl trivial (⟨rfl, rfl, hσ1.1, by rw [atK, if_neg k2, if_pos hh]; exact hσ1.2⟩)
    refine mGo_run (n := 400) ok rfl ?_
    refine mGo_if ok rfl (fun h1 => ?_) (fun h1 => ?_)
    · have k3 : aK F f = 3 := (nI_eq (a := aK F f) (b := 3) (by omega) (by omega)).mp h1
      exact add (Or.inl k3) _
    · have k3 : aK F f ≠ 3 := fun z => h1 (by rw [z]; rfl)
      refine mGo_run (n := 400) ok rfl ?_
      refine mGo_callP ok rfl (by omega) (c_firstOf (d := d) hf.2.1 hc hfn) ?_
      refine mGo_run (n := 400) ok rfl ?_
      rw [if_neg k0]
      refine mGo_callP ok rfl (by omega) (c_canClaim28 (d := d) hcl (f := aA F f) (by have := w3 k0; omega)) ?_
      refine mGo_run (n := 400) ok rfl ?_
      refine mGo_if ok rfl (fun h2 => ?_) (fun h2 => ?_)
      · have e : ¬ canC c (aA F f) = true := fun z => by rw [if_pos z] at h2; exact absurd h2 (by decide)
        refine mGo_run (n := 400) ok rfl ?_
        exact mGo_ret ok rfl trivial (⟨rfl, rfl, frB.refl, by rw [atK, if_neg k2, if_neg (by rintro (z | z); exact k3 z; exact e z), List.append_nil]; exact hb⟩)
      · have e : canC c (aA F f) = true := by
          by_cases z : canC c (aA F f) = true
          · exact z
          · rw [if_neg z] at h2; exact absurd rfl h2
        exact add (Or.inr e) _
end T
