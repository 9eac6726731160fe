/-! elements: the class's mark and number beside the reference's number -/
def rE (t : Nat) (m : Int32) (x y : UInt64) : Prop :=
  (m = 0 ∧ pF x ∧ (x = y ∨ (pZ x ∧ pZ y)) ∧ zm x ≤ 2 ^ 63 * oO ∧ (t = 2 → ∃ z, FP.Core.FFin z ∧ x = FP.f2d z)) ∨ (m = 1 ∧ FP.Core.val64 y = .inf false) ∨ (m = 2 ∧ FP.Core.val64 y = .inf true) ∨ (m = 3 ∧ FP.Core.val64 y = .nan)
theorem rE_0 (t : Nat) : rE t 0 0 0 := by
  have hz : pZ 0 := (FP.Core.zero_bits2 0).mpr rfl
  refine Or.inl ⟨rfl, hz.fin, Or.inl rfl, ?_, fun _ => ⟨0, (FP.Core.fin_bits32 0).mpr (by decide), by decide +kernel⟩⟩
  rw [← zm_abs, pZ_zv hz]
  exact Nat.zero_le _
theorem rE_put3 (v : Int64) : rE 3 0 (FP.l2d v) (FP.l2d v) := Or.inl ⟨rfl, (l2d_ok v).1, Or.inl rfl, (l2d_ok v).2, fun h => by omega⟩
theorem rE_put2 (v : Int64) : rE 2 0 (FP.f2d (FP.l2f v)) (FP.f2d (FP.l2f v)) := Or.inl ⟨rfl, (l2f_ok v).2.1, Or.inl rfl, (l2f_ok v).2.2, fun _ => ⟨_, (l2f_ok v).1, rfl⟩⟩
theorem d2l_of (y : UInt64) : FP.d2l y = FP.Core.toL (FP.Core.val64 y) := rfl
theorem d2l_zero {y : UInt64} (h : pZ y) : FP.d2l y = 0 := by
  obtain ⟨s, q, e⟩ := h
  rw [d2l_of, e]
  show Int64.ofInt (max (-2 ^ 63) (min (2 ^ 63 - 1) (FP.Core.truncate s 0 q))) = 0
  have : FP.Core.truncate s 0 q = 0 := by
    unfold FP.Core.truncate
    rw [Nat.zero_mul, Nat.zero_div]
    exact FP.Core.signed_zero s
  rw [this]
  decide
/-- an element read is the reference's, cast -/
theorem rE_read {t : Nat} {m : Int32} {x y : UInt64} {w : Int64} (ht : 2 ≤ t) (h : rE t m x y) : rdV t w m x = FP.d2l y := by
  unfold rdV
  rw [if_neg (by omega)]
  rcases h with ⟨rfl, h1, h2, -⟩ | ⟨rfl, h⟩ | ⟨rfl, h⟩ | ⟨rfl, h⟩
  · rw [if_neg (by decide), if_neg (by decide), if_neg (by decide)]
    rcases h2 with rfl | ⟨a, b⟩
    · rfl
    · rw [d2l_zero a, d2l_zero b]
  · rw [if_pos rfl, d2l_of, h]; decide +kernel
  · rw [if_neg (by decide), if_pos rfl, d2l_of, h]; decide +kernel
  · rw [if_neg (by decide), if_neg (by decide), if_pos rfl, d2l_of, h]; decide +kernel
theorem nan64 (x : UInt64) : isNaN64 x = true ↔ FP.Core.val64 x = .nan := by
  rw [isNaN64_not, UInt64.le_iff_toNat_le, FP.Core.mask_toNat]
  have h1 := FP.Core.ne_nan x
  constructor
  · intro h
    by_cases z : FP.Core.val64 x = .nan
    · exact z
    · exact absurd (show x.toNat % 2 ^ 63 ≤ 9218868437227405312 from h1.mp z) h
  · intro h z
    exact h1.mpr z h
theorem nan32 (x : UInt32) : isNaN32 x = true ↔ FP.Core.val32 x = .nan := by
  have e : (x &&& 0x7fffffff).toNat = x.toNat % 2 ^ 31 := by
    rw [UInt32.toNat_and]
    exact Nat.and_two_pow_sub_one_eq_mod _ 31
  rw [isNaN32_not, UInt32.le_iff_toNat_le, e]
  have h1 := FP.Core.ne_nan32 x
  constructor
  · intro h
    by_cases z : FP.Core.val32 x = .nan
    · exact z
    · exact absurd (show x.toNat % 2 ^ 31 ≤ 2139095040 from h1.mp z) h
  · intro h z
    exact h1.mpr z h
theorem al64 {r v : UInt64} (h : alike64 r v = true) : FP.Core.val64 r = FP.Core.val64 v ∧ (FP.Core.val64 v ≠ .nan → r = v) := by
  unfold alike64 at h
  rw [Bool.or_eq_true, decide_eq_true_eq, Bool.and_eq_true] at h
  rcases h with h | ⟨h1, h2⟩
  · subst h; exact ⟨rfl, fun _ => rfl⟩
  · rw [nan64] at h1 h2
    exact ⟨by rw [h1, h2], fun z => absurd h2 z⟩
theorem al32 {r v : UInt32} (h : alike32 r v = true) : FP.Core.val32 r = FP.Core.val32 v ∧ (FP.Core.val32 v ≠ .nan → r = v) := by
  unfold alike32 at h
  rw [Bool.or_eq_true, decide_eq_true_eq, Bool.and_eq_true] at h
  rcases h with h | ⟨h1, h2⟩
  · subst h; exact ⟨rfl, fun _ => rfl⟩
  · rw [nan32] at h1 h2
    exact ⟨by rw [h1, h2], fun z => absurd h2 z⟩
/-- the casts between floats and doubles, of what is no finite number -/
theorem f2d_inf {z : UInt32} {s : Bool} (h : FP.Core.val32 z = .inf s) : FP.Core.val64 (FP.f2d z) = .inf s := by
  have hn : FP.Core.fIsNaN z = false := (FP.Core.notNaN_iff32 z).mpr (by rw [h]; exact fun z => by cases z)
  unfold FP.f2d
  rw [if_neg (by rw [hn]; decide), FP.Core.val64_f2d, h]
  rfl
theorem d2f_inf {y : UInt64} {s : Bool} (h : FP.Core.val64 y = .inf s) : FP.Core.val32 (FP.d2f y) = .inf s := by
  have hn : FP.Core.dIsNaN y = false := (FP.Core.notNaN_iff y).mpr (by rw [h]; exact fun z => by cases z)
  unfold FP.d2f
  rw [if_neg (by rw [hn]; decide), FP.Core.val32_d2f, h]
  rfl
theorem isN64 {r : UInt64} (h : FP.Core.dIsNaN r = true) : FP.Core.val64 r = .nan := by
  by_cases z : FP.Core.val64 r = .nan
  · exact z
  · rw [(FP.Core.notNaN_iff r).mpr z] at h; cases h
theorem isN32 {r : UInt32} (h : FP.Core.fIsNaN r = true) : FP.Core.val32 r = .nan := by
  by_cases z : FP.Core.val32 r = .nan
  · exact z
  · rw [(FP.Core.notNaN_iff32 r).mpr z] at h; cases h
/-- the reference's division: what its datum is -/
theorem fdv_ok {z w : UInt32} : FP.Core.val32 (FP.fdiv z w) = FP.Core.quotient FP.Core.b32 (FP.Core.val32 z) (FP.Core.val32 w) := FP.Core.val32_fdiv z w
theorem ddv_ok {x w : UInt64} : FP.Core.val64 (FP.ddiv x w) = FP.Core.quotient FP.Core.b64 (FP.Core.val64 x) (FP.Core.val64 w) := FP.Core.val64_ddiv x w
theorem f2d_nanv {z : UInt32} (h : FP.Core.val32 z = .nan) : FP.Core.val64 (FP.f2d z) = .nan := by
  have hn : FP.Core.fIsNaN z = true := by
    cases e : FP.Core.fIsNaN z with
    | true => rfl
    | false => exact absurd h ((FP.Core.notNaN_iff32 z).mp e)
  have e1 : FP.f2d z = FP.nanF2D z := by unfold FP.f2d; rw [if_pos hn]
  rw [← nan64, e1]
  unfold FP.nanF2D
  exact isNaN64_or_left (isNaN64_or_right (by decide +kernel))
theorem d2f_nanv {y : UInt64} (h : FP.Core.val64 y = .nan) : FP.Core.val32 (FP.d2f y) = .nan := by
  have hn : FP.Core.dIsNaN y = true := by
    cases e : FP.Core.dIsNaN y with
    | true => rfl
    | false => exact absurd h ((FP.Core.notNaN_iff y).mp e)
  have e1 : FP.d2f y = FP.nanD2F y := by unfold FP.d2f; rw [if_pos hn]
  rw [← nan32, e1]
  unfold FP.nanD2F
  exact isNaN32_or_left (isNaN32_or_right (by decide +kernel))
