/-! positions that a search meets, and their ranks -/
abbrev aP : Type := Int64 × Int64
def ix : List aP → aP → Nat
  | [], _ => 0
  | a :: t, p => if a = p then 0 else ix t p + 1
theorem ix_at : ∀ {P : List aP} {p : aP}, p ∈ P → P[ix P p]? = some p := by
  intro P
  induction P with
  | nil => intro p h; simp at h
  | cons a t ih =>
    intro p h
    by_cases e : a = p
    · simp [ix, e]
    · have : p ∈ t := by
        rcases List.mem_cons.mp h with z | z
        · exact absurd z.symm e
        · exact z
      simp [ix, e, ih this]
theorem ix_lt {P : List aP} {p : aP} (h : p ∈ P) : ix P p < P.length := (List.getElem?_eq_some_iff.mp (ix_at h)).1
theorem ix_app : ∀ {P Q : List aP} {p : aP}, p ∈ P → ix (P ++ Q) p = ix P p := by
  intro P
  induction P with
  | nil => intro Q p h; simp at h
  | cons a t ih =>
    intro Q p h
    by_cases e : a = p
    · simp [ix, e]
    · have : p ∈ t := by
        rcases List.mem_cons.mp h with z | z
        · exact absurd z.symm e
        · exact z
      simp [ix, e, ih this]
theorem ix_new : ∀ {P : List aP} {p : aP}, p ∉ P → ix (P ++ [p]) p = P.length := by
  intro P
  induction P with
  | nil => intro p _; simp [ix]
  | cons a t ih =>
    intro p h
    have e : ¬ a = p := fun z => h (by rw [z]; exact List.mem_cons_self)
    have : p ∉ t := fun z => h (List.mem_cons_of_mem _ z)
    simp [ix, e, ih this]
def nd (P : List aP) : Prop := ∀ (i j : Nat) (p : aP), P[i]? = some p → P[j]? = some p → i = j
theorem ix_of {P : List aP} (h : nd P) {i : Nat} {p : aP} (hi : P[i]? = some p) : ix P p = i := h _ _ _ (ix_at (List.mem_of_getElem? hi)) hi
theorem nd_nil : nd [] := fun i j p h _ => by simp at h
theorem nd_app {P : List aP} {p : aP} (h : nd P) (hp : p ∉ P) : nd (P ++ [p]) := by
  have key : ∀ (i : Nat) (q : aP), (P ++ [p])[i]? = some q → (i < P.length ∧ P[i]? = some q) ∨ (i = P.length ∧ q = p) := by
    intro i q hq
    rcases Nat.lt_or_ge i P.length with z | z
    · rw [List.getElem?_append_left z] at hq; exact Or.inl ⟨z, hq⟩
    · have hl := (List.getElem?_eq_some_iff.mp hq).1
      simp at hl
      have e : i = P.length := by omega
      subst e
      simp at hq
      exact Or.inr ⟨rfl, hq.symm⟩
  intro i j q hi hj
  rcases key i q hi with ⟨a1, a2⟩ | ⟨a1, a2⟩ <;> rcases key j q hj with ⟨b1, b2⟩ | ⟨b1, b2⟩
  · exact h i j q a2 b2
  · exact absurd (b2 ▸ List.mem_of_getElem? a2) hp
  · exact absurd (a2 ▸ List.mem_of_getElem? b2) hp
  · omega
/-- a position is met -/
def addP (P : List aP) (p : aP) : List aP := if p ∈ P then P else if P.length ≤ 300 then P ++ [p] else P
def pfx (P Q : List aP) : Prop := ∃ t, Q = P ++ t
theorem pfx.refl {P : List aP} : pfx P P := ⟨[], by simp⟩
theorem pfx.trans {P Q R : List aP} (h1 : pfx P Q) (h2 : pfx Q R) : pfx P R := by
  obtain ⟨t, rfl⟩ := h1
  obtain ⟨u, rfl⟩ := h2
  exact ⟨t ++ u, by simp⟩
theorem pfx.mem {P Q : List aP} (h : pfx P Q) {p : aP} (hp : p ∈ P) : p ∈ Q := by
  obtain ⟨t, rfl⟩ := h
  exact List.mem_append_left _ hp
theorem pfx.at {P Q : List aP} (h : pfx P Q) {i : Nat} {p : aP} (hp : P[i]? = some p) : Q[i]? = some p := by
  obtain ⟨t, rfl⟩ := h
  rw [List.getElem?_append_left (List.getElem?_eq_some_iff.mp hp).1]; exact hp
theorem pfx.ix {P Q : List aP} (h : pfx P Q) {p : aP} (hp : p ∈ P) : ix Q p = ix P p := by
  obtain ⟨t, rfl⟩ := h
  exact ix_app hp
theorem pfx.len {P Q : List aP} (h : pfx P Q) : P.length ≤ Q.length := by
  obtain ⟨t, rfl⟩ := h
  simp
theorem addP_pfx (P : List aP) (p : aP) : pfx P (addP P p) := by
  unfold addP
  split
  · exact pfx.refl
  · split
    · exact ⟨[p], rfl⟩
    · exact pfx.refl
theorem addP_nd {P : List aP} (h : nd P) (p : aP) : nd (addP P p) := by
  unfold addP
  split
  · exact h
  · rename_i hp
    split
    · exact nd_app h hp
    · exact h
theorem addP_len {P : List aP} (p : aP) (h : P.length ≤ 301) : (addP P p).length ≤ 301 := by
  unfold addP
  split
  · exact h
  · split
    · simp; omega
    · exact h
theorem addP_mem {P : List aP} {p : aP} (h : (addP P p).length ≤ 300) : p ∈ addP P p := by
  unfold addP at h ⊢
  split at h
  · rename_i hp; rw [if_pos hp]; exact hp
  · rename_i hp
    rw [if_neg hp]
    split at h
    · rename_i hl; rw [if_pos hl]; simp
    · omega
def meets (P : List aP) : List aP → List aP
  | [] => P
  | p :: t => meets (addP P p) t
theorem meets_app (t : List aP) : ∀ (s : List aP) (P : List aP), meets P (s ++ t) = meets (meets P s) t := by
  intro s
  induction s with
  | nil => intro P; rfl
  | cons a s ih => intro P; exact ih _
theorem meets_pfx : ∀ (t : List aP) (P : List aP), pfx P (meets P t) := by
  intro t
  induction t with
  | nil => intro P; exact pfx.refl
  | cons a t ih => intro P; exact (addP_pfx P a).trans (ih _)
theorem meets_nd : ∀ (t : List aP) {P : List aP}, nd P → nd (meets P t) := by
  intro t
  induction t with
  | nil => intro P h; exact h
  | cons a t ih => intro P h; exact ih (addP_nd h a)
theorem meets_len : ∀ (t : List aP) {P : List aP}, P.length ≤ 301 → (meets P t).length ≤ 301 := by
  intro t
  induction t with
  | nil => intro P h; exact h
  | cons a t ih => intro P h; exact ih (addP_len a h)
theorem meets_mem : ∀ (t : List aP) {P : List aP}, (meets P t).length ≤ 300 → ∀ p ∈ t, p ∈ meets P t := by
  intro t
  induction t with
  | nil => intro P h p hp; simp at hp
  | cons a t ih =>
    intro P h p hp
    rcases List.mem_cons.mp hp with rfl | hp
    · exact (meets_pfx t (addP P p)).mem (addP_mem (by have := (meets_pfx t (addP P p)).len; have : (meets (addP P p) t).length ≤ 300 := h; omega))
    · exact ih h p hp
theorem meets_full : ∀ (t : List aP) {P : List aP}, 300 < P.length → meets P t = P := by
  intro t
  induction t with
  | nil => intro P h; rfl
  | cons a t ih =>
    intro P h
    have e : addP P a = P := by
      unfold addP
      split
      · rfl
      · rw [if_neg (by omega)]
    show meets (addP P a) t = P
    rw [e]
    exact ih h
section G
variable (F : aF) (man : Nat)
/-- the replies to a move; all of a position -/
def rps (p : aP) (q : Nat × Nat) : List aP := (List.range (rpN F q)).map (fun r => rpP F man p.1 p.2 q r)
def alR (p : aP) : List aP := (mvs F p.1 p.2).flatMap (rps F man p)
def at0 (P : List aP) (i : Nat) : aP := (P[i]?).getD (0, 0)
/-- all descendants, or more than 300 -/
def bfs : Nat → Nat → List aP → List aP
  | 0, _, P => P
  | n + 1, i, P => if i < P.length ∧ P.length ≤ 300 then bfs n (i + 1) (meets P (alR F man (at0 P i))) else P
def clo (P : List aP) (p : aP) : Prop := ∀ q ∈ mvs F p.1 p.2, ∀ x ∈ rps F man p q, x ∈ P
/-- a move through which position i gets a rank below L -/
def winB (P : List aP) (R : Nat → Nat) (L i : Nat) : Bool := (mvs F (at0 P i).1 (at0 P i).2).any (fun q => (rps F man (at0 P i) q).all (fun x => decide (1 ≤ R (ix P x) ∧ R (ix P x) < L)))
def rk (P : List aP) : Nat → Nat → Nat
  | 0, _ => 0
  | L + 1, i => if rk P L i = 0 ∧ winB F man P (rk P L) (L + 1) i = true then L + 1 else rk P L i
end G
section G
variable {F : aF} {man : Nat}
theorem bfs_pfx : ∀ (n i : Nat) (P : List aP), pfx P (bfs F man n i P) := by
  intro n
  induction n with
  | zero => intro i P; exact pfx.refl
  | succ n ih =>
    intro i P
    simp only [bfs]
    split
    · exact (meets_pfx _ _).trans (ih _ _)
    · exact pfx.refl
theorem bfs_nd : ∀ (n i : Nat) {P : List aP}, nd P → nd (bfs F man n i P) := by
  intro n
  induction n with
  | zero => intro i P h; exact h
  | succ n ih =>
    intro i P h
    simp only [bfs]
    split
    · exact ih _ (meets_nd _ h)
    · exact h
theorem bfs_len : ∀ (n i : Nat) {P : List aP}, P.length ≤ 301 → (bfs F man n i P).length ≤ 301 := by
  intro n
  induction n with
  | zero => intro i P h; exact h
  | succ n ih =>
    intro i P h
    simp only [bfs]
    split
    · exact ih _ (meets_len _ h)
    · exact h
theorem rk_le {P : List aP} : ∀ (L i : Nat), rk F man P L i ≤ L := by
  intro L
  induction L with
  | zero => intro i; exact Nat.le_refl _
  | succ L ih =>
    intro i
    simp only [rk]
    split
    · exact Nat.le_refl _
    · have := ih i; omega
theorem winB_congr {P : List aP} {R R1 : Nat → Nat} {L L1 i : Nat} (h : ∀ q ∈ mvs F (at0 P i).1 (at0 P i).2, ∀ x ∈ rps F man (at0 P i) q, (1 ≤ R (ix P x) ∧ R (ix P x) < L) ↔ (1 ≤ R1 (ix P x) ∧ R1 (ix P x) < L1)) : winB F man P R L i = winB F man P R1 L1 i := by
  unfold winB
  rw [Bool.eq_iff_iff, List.any_eq_true, List.any_eq_true]
  constructor
  · rintro ⟨q, hq, hx⟩
    refine ⟨q, hq, List.all_eq_true.mpr (fun x hx1 => ?_)⟩
    have := List.all_eq_true.mp hx x hx1
    exact decide_eq_true ((h q hq x hx1).mp (of_decide_eq_true this))
  · rintro ⟨q, hq, hx⟩
    refine ⟨q, hq, List.all_eq_true.mpr (fun x hx1 => ?_)⟩
    have := List.all_eq_true.mp hx x hx1
    exact decide_eq_true ((h q hq x hx1).mpr (of_decide_eq_true this))
theorem clo_lt {P : List aP} {i : Nat} (h : clo F man P (at0 P i)) {q : Nat × Nat} (hq : q ∈ mvs F (at0 P i).1 (at0 P i).2) {x : aP} (hx : x ∈ rps F man (at0 P i) q) : ix P x < P.length := ix_lt (h q hq x hx)
/-- where a round finds nothing, no later one does -/
theorem rk_stop {P : List aP} (hc : ∀ i, i < P.length → clo F man P (at0 P i)) {L : Nat} (h : ∀ i, i < P.length → rk F man P (L + 1) i = rk F man P L i) : ∀ M i, i < P.length → rk F man P (L + M) i = rk F man P L i := by
  intro M
  induction M with
  | zero => intro i _; rfl
  | succ M ih =>
    intro i hi
    have e1 := ih i hi
    rw [show L + (M + 1) = (L + M) + 1 by omega]
    simp only [rk]
    have hw : winB F man P (rk F man P (L + M)) (L + M + 1) i = winB F man P (rk F man P L) (L + 1) i := by
      apply winB_congr
      intro q hq x hx
      rw [ih _ (clo_lt (hc i hi) hq hx)]
      have := rk_le (F := F) (man := man) (P := P) L (ix P x)
      constructor
      · intro z; exact ⟨z.1, by omega⟩
      · intro z; exact ⟨z.1, by omega⟩
    rw [hw, e1]
    have h0 := h i hi
    simp only [rk] at h0
    by_cases z : rk F man P L i = 0 ∧ winB F man P (rk F man P L) (L + 1) i = true
    · rw [if_pos z] at h0
      have := rk_le (F := F) (man := man) (P := P) L i
      omega
    · rw [if_neg z]
/-- how many of the first n are not 0 -/
def cnt (f : Nat → Nat) : Nat → Nat
  | 0 => 0
  | n + 1 => cnt f n + if f n = 0 then 0 else 1
theorem cnt_le (f : Nat → Nat) : ∀ n, cnt f n ≤ n := by
  intro n
  induction n with
  | zero => exact Nat.le_refl _
  | succ n ih => simp only [cnt]; split <;> omega
theorem cnt_all {f : Nat → Nat} : ∀ {n : Nat}, cnt f n = n → ∀ i, i < n → f i ≠ 0 := by
  intro n
  induction n with
  | zero => intro _ i hi; omega
  | succ n ih =>
    intro h i hi
    have := cnt_le f n
    simp only [cnt] at h
    split at h
    · omega
    · rename_i hn
      rcases Nat.lt_or_ge i n with z | z
      · exact ih (by omega) i z
      · have : i = n := by omega
        subst this; exact hn
theorem cnt_mono {f f1 : Nat → Nat} : ∀ {n : Nat}, (∀ i, i < n → f i ≠ 0 → f1 i ≠ 0) → cnt f n ≤ cnt f1 n := by
  intro n
  induction n with
  | zero => intro _; exact Nat.le_refl _
  | succ n ih =>
    intro h
    have h1 := ih (fun i hi => h i (by omega))
    have h2 := h n (by omega)
    simp only [cnt]
    by_cases z : f n = 0
    · rw [if_pos z]; split <;> omega
    · rw [if_neg z, if_neg (h2 z)]; omega
theorem cnt_more {f f1 : Nat → Nat} : ∀ {n : Nat}, (∀ i, i < n → f i ≠ 0 → f1 i ≠ 0) → ∀ j, j < n → f j = 0 → f1 j ≠ 0 → cnt f n + 1 ≤ cnt f1 n := by
  intro n
  induction n with
  | zero => intro _ j hj; omega
  | succ n ih =>
    intro h j hj h1 h2
    simp only [cnt]
    rcases Nat.lt_or_ge j n with z | z
    · have := ih (fun i hi => h i (by omega)) j z h1 h2
      have h3 := h n (by omega)
      by_cases y : f n = 0
      · rw [if_pos y]; split <;> omega
      · rw [if_neg y, if_neg (h3 y)]; omega
    · have e : j = n := by omega
      subst e
      have := cnt_mono (n := j) (fun i hi => h i (by omega))
      rw [if_pos h1, if_neg h2]; omega
theorem rk_keep {P : List aP} {L i : Nat} (h : rk F man P L i ≠ 0) : rk F man P (L + 1) i = rk F man P L i := by
  simp only [rk]
  rw [if_neg (fun z => h z.1)]
/-- after a round for each position there is no other rank -/
theorem rk_top {P : List aP} (hc : ∀ i, i < P.length → clo F man P (at0 P i)) : ∀ M i, i < P.length → rk F man P (P.length + M) i = rk F man P P.length i := by
  have key : ∀ L, (∃ K, K ≤ L ∧ ∀ i, i < P.length → rk F man P (K + 1) i = rk F man P K i) ∨ L ≤ cnt (rk F man P L) P.length := by
    intro L
    induction L with
    | zero => exact Or.inr (Nat.zero_le _)
    | succ L ih =>
      rcases ih with ⟨K, h1, h2⟩ | h
      · exact Or.inl ⟨K, by omega, h2⟩
      · by_cases z : ∀ i, i < P.length → rk F man P (L + 1) i = rk F man P L i
        · exact Or.inl ⟨L, by omega, z⟩
        · have : ∃ i, i < P.length ∧ rk F man P (L + 1) i ≠ rk F man P L i := by
            apply Classical.byContradiction
            intro y
            exact z (fun i hi => Classical.byContradiction (fun x => y ⟨i, hi, x⟩))
          obtain ⟨i, hi, hne⟩ := this
          have h0 : rk F man P L i = 0 := Classical.byContradiction (fun y => hne (rk_keep y))
          have := cnt_more (f := rk F man P L) (f1 := rk F man P (L + 1)) (n := P.length) (fun j _ hj => by rw [rk_keep hj]; exact hj) i hi h0 (by rw [h0] at hne; exact hne)
          exact Or.inr (by omega)
  have stop : ∀ i, i < P.length → rk F man P (P.length + 1) i = rk F man P P.length i := by
    rcases key P.length with ⟨K, h1, h2⟩ | h
    · intro i hi
      have a := rk_stop hc h2 (P.length + 1 - K) i hi
      have b := rk_stop hc h2 (P.length - K) i hi
      rw [show K + (P.length + 1 - K) = P.length + 1 by omega] at a
      rw [show K + (P.length - K) = P.length by omega] at b
      rw [a, b]
    · intro i hi
      have := cnt_le (rk F man P P.length) P.length
      exact rk_keep (cnt_all (by omega) i hi)
  exact rk_stop hc stop
/-- a round that finds nothing gives the last ranks -/
theorem rk_last {P : List aP} (hc : ∀ i, i < P.length → clo F man P (at0 P i)) {L : Nat} (h : ∀ i, i < P.length → rk F man P (L + 1) i = rk F man P L i) : ∀ i, i < P.length → rk F man P L i = rk F man P P.length i := by
  intro i hi
  rcases Nat.le_total L P.length with z | z
  · have := rk_stop hc h (P.length - L) i hi
    rw [show L + (P.length - L) = P.length by omega] at this
    exact this.symm
  · have := rk_top hc (L - P.length) i hi
    rw [show P.length + (L - P.length) = L by omega] at this
    exact this
/-- nobody without a rank could have got one before -/
theorem rk_not {P : List aP} {L i : Nat} (h : rk F man P (L + 1) i = 0) : winB F man P (rk F man P (L + 1)) (L + 1) i = false := by
  simp only [rk] at h
  have h1 : ¬ (rk F man P L i = 0 ∧ winB F man P (rk F man P L) (L + 1) i = true) := fun z => by rw [if_pos z] at h; omega
  rw [if_neg h1] at h
  have h2 : winB F man P (rk F man P L) (L + 1) i = false := by simpa using fun z => h1 ⟨h, z⟩
  rw [← h2]
  apply winB_congr
  intro q hq x hx
  have := rk_le (F := F) (man := man) (P := P) L (ix P x)
  simp only [rk]
  by_cases z : rk F man P L (ix P x) = 0 ∧ winB F man P (rk F man P L) (L + 1) (ix P x) = true
  · rw [if_pos z]; omega
  · rw [if_neg z]
end G
