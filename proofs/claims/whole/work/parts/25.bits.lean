/-! sets of formulas as longs -/
def tb (x : Int64) (j : Nat) : Bool := x.toBitVec.getLsbD j
theorem tb_ext {x y : Int64} (h : ∀ j, j < 64 → tb x j = tb y j) : x = y := by
  apply Int64.toBitVec_inj.mp
  apply BitVec.eq_of_getLsbD_eq
  intro i hi
  exact h i hi
theorem tb_or (x y : Int64) (j : Nat) : tb (x ||| y) j = (tb x j || tb y j) := by simp [tb]
theorem tb_and (x y : Int64) (j : Nat) : tb (x &&& y) j = (tb x j && tb y j) := by simp [tb]
theorem tb_zero (j : Nat) : tb 0 j = false := by simp [tb]
theorem bit_bv : ∀ i, i < 64 → (bit i).toBitVec = BitVec.twoPow 64 i := by decide +kernel
theorem tb_bit {i : Nat} (hi : i < 64) (j : Nat) : tb (bit i) j = decide (i = j) := by
  simp only [tb, bit_bv i hi, BitVec.getLsbD_twoPow]
  by_cases h : i = j
  · subst h; simp [hi]
  · simp [h]
theorem lg0 {x y : Int64} : lg_cmp x y = 0 ↔ x = y := by
  unfold lg_cmp
  by_cases h : x > y
  · rw [if_pos h]
    constructor
    · intro z; exact absurd z (by decide)
    · intro z; subst z; exact absurd h Int64.lt_irrefl
  · rw [if_neg h]
    by_cases e : x = y
    · rw [if_pos e]; exact ⟨fun _ => e, fun _ => rfl⟩
    · rw [if_neg e]
      constructor
      · intro z; exact absurd z (by decide)
      · intro z; exact absurd z e
/-- a set meets one bit -/
theorem and_bit {x : Int64} {i : Nat} (hi : i < 64) : x &&& bit i = 0 ↔ tb x i = false := by
  constructor
  · intro h
    have := congrArg (fun z => tb z i) h
    simp only [tb_and, tb_bit hi, tb_zero, decide_true, Bool.and_true] at this
    exact this
  · intro h
    apply tb_ext
    intro j hj
    rw [tb_and, tb_bit hi, tb_zero]
    by_cases e : i = j
    · subst e; simp [h]
    · simp [e]
theorem and_one {x : Int64} : x &&& 1 = 1 ↔ tb x 0 = true := by
  have e1 : ∀ j, j < 64 → tb 1 j = decide (0 = j) := fun j hj => by
    have := tb_bit (i := 0) (by decide) j
    rw [show bit 0 = 1 by decide] at this
    exact this
  constructor
  · intro h
    have := congrArg (fun z => tb z 0) h
    simp only [tb_and, e1 0 (by decide), decide_true, Bool.and_true] at this
    exact this
  · intro h
    apply tb_ext
    intro j hj
    rw [tb_and, e1 j hj]
    by_cases e : 0 = j
    · subst e; simp [h]
    · simp [e]
theorem and_one0 {x : Int64} : x &&& 1 = 0 ↔ tb x 0 = false := by
  have := and_bit (x := x) (i := 0) (by decide)
  rw [show bit 0 = 1 by decide] at this
  exact this
/-- the amount of a shift -/
theorem sh_am : ∀ i, i < 64 → ((nI i).toInt64 &&& 63).toBitVec.smod 64 = BitVec.ofNat 64 i := by decide +kernel
theorem tb_shr {x : Int64} {i : Nat} (hi : i < 64) : tb (x >>> ((nI i).toInt64 &&& 63)) 0 = tb x i := by
  simp only [tb]
  rw [Int64.toBitVec_shiftRight, sh_am i hi, BitVec.sshiftRight_eq', BitVec.getLsbD_sshiftRight]
  simp [BitVec.toNat_ofNat, Nat.mod_eq_of_lt (show i < 18446744073709551616 by omega), hi]
/-- the test that the reference makes -/
theorem shr_one {x : Int64} {i : Nat} (hi : i < 64) : (x >>> ((nI i).toInt64 &&& 63)) &&& 1 = 1 ↔ tb x i = true := by
  rw [and_one, tb_shr hi]
/-- one place to the right, zeros come in -/
def sr1 (x : Int64) : Int64 := (x.toUInt64 >>> ((1 : Int32).toInt64.toUInt64 &&& Int64.toUInt64 63)).toInt64
theorem tb_sr1 (x : Int64) (j : Nat) : tb (sr1 x) j = tb x (j + 1) := by
  have e : ((1 : Int32).toInt64.toUInt64 &&& Int64.toUInt64 63) = 1 := by decide
  simp only [tb, sr1, e]
  show (x.toUInt64 >>> (1 : UInt64)).toBitVec.getLsbD j = _
  rw [UInt64.toBitVec_shiftRight]
  simp [Nat.add_comm]
/-- shifted k times -/
def srN (x : Int64) : Nat → Int64
  | 0 => x
  | k + 1 => sr1 (srN x k)
theorem tb_srN (x : Int64) : ∀ (k j : Nat), tb (srN x k) j = tb x (j + k) := by
  intro k
  induction k with
  | zero => intro j; rfl
  | succ k ih => intro j; rw [srN, tb_sr1, ih]; congr 1; omega
theorem srN_zero {x : Int64} {k : Nat} (h : srN x k = 0) : ∀ j, k ≤ j → tb x j = false := by
  intro j hj
  have := tb_srN x k (j - k)
  rw [h, tb_zero, show j - k + k = j by omega] at this
  exact this.symm
