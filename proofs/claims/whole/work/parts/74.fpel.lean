/-! numbers: floats, and what whole ones become -/
theorem u64_le {x : UInt64} {K : Nat} (hx : pF x) (hK : 1 ≤ K) (h : x.toNat % 2 ^ 63 ≤ K * 2 ^ 52) : zm x ≤ 2 ^ 52 * 2 ^ (K - 1) := by
  have e := FP.Core.zmag_bits hx.ne_nan
  have h1 : FP.Core.unitsOf FP.Core.b64 (x.toNat % 2 ^ 63) ≤ FP.Core.unitsOf FP.Core.b64 (K * FP.Core.b64.tails) := FP.Core.unitsOf_le_iff.mpr (by rw [FP.Core.tails_b64]; exact h)
  rw [FP.Core.unitsOf_start hK, FP.Core.tails_b64] at h1
  exact Nat.le_trans (Nat.le_of_eq e) h1
abbrev zm3 (z : UInt32) : Nat := FP.Core.zmag FP.Core.b32 (FP.Core.val32 z)
theorem u32_le {z : UInt32} {K : Nat} (hz : FP.Core.FFin z) (hK : 1 ≤ K) (h : z.toNat % 2 ^ 31 ≤ K * 2 ^ 23) : zm3 z ≤ 2 ^ 23 * 2 ^ (K - 1) := by
  have e := FP.Core.zmag_bits32 hz.ne_nan
  have h1 : FP.Core.unitsOf FP.Core.b32 (z.toNat % 2 ^ 31) ≤ FP.Core.unitsOf FP.Core.b32 (K * FP.Core.b32.tails) := FP.Core.unitsOf_le_iff.mpr (by rw [FP.Core.tails_b32]; exact h)
  rw [FP.Core.unitsOf_start hK, FP.Core.tails_b32] at h1
  exact Nat.le_trans (Nat.le_of_eq e) h1
theorem u32_ge {z : UInt32} {K : Nat} (hz : FP.Core.FFin z) (hK : 1 ≤ K) (h : K * 2 ^ 23 ≤ z.toNat % 2 ^ 31) : 2 ^ 23 * 2 ^ (K - 1) ≤ zm3 z := by
  have e := FP.Core.zmag_bits32 hz.ne_nan
  have h1 : FP.Core.unitsOf FP.Core.b32 (K * FP.Core.b32.tails) ≤ FP.Core.unitsOf FP.Core.b32 (z.toNat % 2 ^ 31) := FP.Core.unitsOf_le_iff.mpr (by rw [FP.Core.tails_b32]; exact h)
  rw [FP.Core.unitsOf_start hK, FP.Core.tails_b32] at h1
  exact Nat.le_trans h1 (Nat.le_of_eq e.symm)
theorem qmax32 : FP.Core.b32.qmax = 104 := by decide
theorem f2d_core {z : UInt32} (hz : FP.Core.FFin z) : FP.f2d z = FP.Core.f2d z := by
  unfold FP.f2d
  rw [if_neg (by rw [hz.notNaN]; decide)]
theorem d2f_core {x : UInt64} (hx : pF x) : FP.d2f x = FP.Core.d2f x := by
  unfold FP.d2f
  rw [if_neg (by rw [hx.notNaN]; decide)]
/-- a float as a double -/
theorem f2d_val {z : UInt32} {s : Bool} {c : Nat} {q : Int} (h : FP.Core.val32 z = .fin s c q) : ∃ c' q', FP.Core.val64 (FP.f2d z) = .fin s c' q' ∧ FP.Core.inUnits c' q' FP.Core.b64.qmin = FP.Core.inUnits c q FP.Core.b32.qmin * 2 ^ 925 := by
  have hz : FP.Core.FFin z := ⟨s, c, q, h⟩
  have hf := h ▸ FP.Core.val32_fits z
  obtain ⟨f1, f2, f3, -⟩ := hf
  rw [FP.Core.qmin_b32] at f2
  rw [qmax32] at f3
  have f1 : c < 2 ^ 24 := f1
  obtain ⟨c', q', a1, a2⟩ := rep_round (s := s) (n := c) (e := q) (by omega) ⟨c, q, Nat.lt_trans f1 (by decide), by omega, by omega, rfl⟩
  refine ⟨c', q', by rw [f2d_core hz, FP.Core.val64_f2d, h, a1], ?_⟩
  rw [a2]
  show c * 2 ^ (q + 1074).toNat = c * 2 ^ (q - FP.Core.b32.qmin).toNat * 2 ^ 925
  rw [FP.Core.qmin_b32, Nat.mul_assoc, ← Nat.pow_add]
  congr 2
  omega
theorem f2d_z {z : UInt32} (hz : FP.Core.FFin z) : pF (FP.f2d z) ∧ zm (FP.f2d z) = zm3 z * 2 ^ 925 := by
  obtain ⟨s, c, q, h⟩ := hz
  obtain ⟨c', q', a1, a2⟩ := f2d_val h
  refine ⟨⟨s, c', q', a1⟩, ?_⟩
  show FP.Core.zmag FP.Core.b64 (FP.Core.val64 (FP.f2d z)) = FP.Core.zmag FP.Core.b32 (FP.Core.val32 z) * 2 ^ 925
  rw [a1, h]
  exact a2
theorem d2f_f2d' {z : UInt32} (hz : FP.Core.FFin z) : FP.d2f (FP.f2d z) = z := by
  rw [d2f_core (f2d_z hz).1, f2d_core hz]
  exact FP.Core.d2f_f2d hz.ne_nan
theorem p2 (a b : Nat) : (2 : Nat) ^ a * 2 ^ b = 2 ^ (a + b) := (Nat.pow_add 2 a b).symm
theorem l2d_ok (v : Int64) : pF (FP.l2d v) ∧ zm (FP.l2d v) ≤ 2 ^ 63 * oO := by
  have h := FP.Core.l2d_fin v
  have h1 := FP.Core.fromInt_mag (FP.Core.toNat_l2d v) (FP.Core.int64_abs v) (K := 1086) (by decide) (by decide)
  refine ⟨h, ?_⟩
  have := u64_le h (K := 1086) (by decide) h1
  rw [p2] at this
  rw [oO_eq, p2]
  exact this
theorem l2f_ok (v : Int64) : FP.Core.FFin (FP.l2f v) ∧ pF (FP.f2d (FP.l2f v)) ∧ zm (FP.f2d (FP.l2f v)) ≤ 2 ^ 63 * oO := by
  have h := FP.Core.l2f_fin v
  have h1 := FP.Core.fromInt_mag32 (FP.Core.toNat_l2f v) (FP.Core.int64_abs v) (K := 190) (by decide) (by decide)
  obtain ⟨a, b⟩ := f2d_z h
  refine ⟨h, a, ?_⟩
  have h2 := u32_le h (K := 190) (by decide) h1
  rw [b]
  refine Nat.le_trans (Nat.mul_le_mul_right _ h2) ?_
  rw [p2, p2, oO_eq, p2]
  exact Nat.le_refl _
theorem sgn32 (op : Int32) : decide (op.toInt < 0) = decide (op < 0) := by
  rw [decide_eq_decide, Int32.lt_iff_toInt_lt]
  exact Iff.rfl
/-- a whole operand as a double -/
theorem val_i2d (op : Int32) : ∃ c q, FP.Core.val64 (FP.i2d op) = .fin (decide (op < 0)) c q ∧ FP.Core.inUnits c q FP.Core.b64.qmin = op.toInt.natAbs * oO := by
  have hb := FP.Core.int32_abs op
  have hv : FP.Core.val64 (FP.Core.i2d op) = FP.Core.round FP.Core.b64 (.fin (decide (op.toInt < 0)) op.toInt.natAbs 0) := FP.Core.val64_i2d op
  obtain ⟨c', q', b1, b2⟩ := rep_round (s := decide (op.toInt < 0)) (n := op.toInt.natAbs) (e := 0) (by omega) (rep_int (by omega))
  rw [b1, sgn32] at hv
  exact ⟨c', q', hv, b2⟩
/-- a whole operand as a float: a whole number D -/
theorem val_i2f (op : Int32) : ∃ c q D, FP.Core.val32 (FP.i2f op) = .fin (decide (op < 0)) c q ∧ FP.Core.inUnits c q FP.Core.b32.qmin = D * 2 ^ 149 ∧ D ≤ 2 ^ 31 ∧ (op ≠ 0 → 1 ≤ D) ∧ (op = 0 → c = 0) ∧ (FP.f2l (FP.i2f op)).toInt.natAbs = D := by
  have hb := FP.Core.int32_abs op
  have hfin := FP.Core.i2f_fin op
  have hv : FP.Core.val32 (FP.Core.i2f op) = FP.Core.roundRatio FP.Core.b32 (decide (op.toInt < 0)) op.toInt.natAbs 1 0 := FP.Core.val32_i2f op
  obtain ⟨s, c, q, hc⟩ := hfin
  have hs : s = decide (op < 0) := by
    have h1 := FP.Core.sgn_roundRatio FP.Core.b32 (decide (op.toInt < 0)) op.toInt.natAbs 1 0
    rw [← hv, hc, sgn32] at h1
    exact h1
  have hfit := hc ▸ FP.Core.val32_fits (FP.Core.i2f op)
  obtain ⟨f1, f2, f3, -⟩ := hfit
  rw [FP.Core.qmin_b32] at f2
  have f1 : c < 2 ^ 24 := f1
  have hzm : zm3 (FP.i2f op) = c * 2 ^ (q + 149).toNat := by
    show FP.Core.zmag FP.Core.b32 (FP.Core.val32 (FP.Core.i2f op)) = _
    rw [hc]
    show c * 2 ^ (q - FP.Core.b32.qmin).toNat = _
    rw [FP.Core.qmin_b32, show q - -149 = q + 149 by omega]
  have hup : zm3 (FP.i2f op) ≤ 2 ^ 31 * 2 ^ 149 := by
    have := u32_le (FP.Core.i2f_fin op) (K := 158) (by decide) (FP.Core.fromInt_mag32 (FP.Core.toNat_i2f op) hb (K := 158) (by decide) (by decide))
    rw [p2] at this ⊢
    exact this
  have hD : ∃ D, zm3 (FP.i2f op) = D * 2 ^ 149 := by
    by_cases h24 : op.toInt.natAbs ≤ 2 ^ 24
    · have hw := FP.Core.whole_round FP.Core.good_b32 FP.Core.wide_b32 (i := op.toInt) h24 (FP.Core.whole_ofInt op.toInt)
      rw [← FP.Core.val32_i2f] at hw
      have hz := FP.Core.whole_zval FP.Core.good_b32 (FP.Core.val32_fits _) hw
      refine ⟨op.toInt.natAbs, ?_⟩
      have := congrArg Int.natAbs hz
      rw [Int.natAbs_mul, Int.natAbs_natCast] at this
      rw [← show (FP.Core.zval FP.Core.b32 (FP.Core.val32 (FP.Core.i2f op))).natAbs = zm3 (FP.i2f op) from FP.Core.natAbs_signed _ _, this, FP.Core.qmin_b32]
      rfl
    · have hge := FP.Core.zmag_roundRatio_ge FP.Core.good_b32 (s := decide (op.toInt < 0)) (A := op.toInt.natAbs) (B := 1) (e := 0) (e0 := FP.Core.b32.qmin) (V := .fin false (2 ^ 23) 1) (by decide) ⟨by decide, by decide, by decide, Or.inr (by decide)⟩ (Int.le_refl _) (by decide) (by
        show 2 ^ 23 * 2 ^ (1 - FP.Core.b32.qmin).toNat * 2 ^ (FP.Core.b32.qmin - FP.Core.b32.qmin).toNat * 1 ≤ op.toInt.natAbs * 2 ^ (0 - FP.Core.b32.qmin).toNat
        rw [FP.Core.qmin_b32, show ((1 : Int) - -149).toNat = 150 by decide, show ((-149 : Int) - -149).toNat = 0 by decide, show ((0 : Int) - -149).toNat = 149 by decide, Nat.pow_zero, Nat.mul_one, Nat.mul_one, p2, show 23 + 150 = 24 + 149 by omega, ← p2]
        exact Nat.mul_le_mul_right _ (by omega))
      rw [← hv] at hge
      have hge : 2 ^ 23 * 2 ^ (1 - FP.Core.b32.qmin).toNat ≤ zm3 (FP.i2f op) := hge
      rw [FP.Core.qmin_b32, show ((1 : Int) - -149).toNat = 150 by decide, p2, hzm] at hge
      have hq : 0 ≤ q := by
        by_cases z : q < 0
        · exfalso
          have h1 : (2 : Nat) ^ (q + 149).toNat ≤ 2 ^ 149 := Nat.pow_le_pow_right (by decide) (by omega)
          have h2 : c * 2 ^ (q + 149).toNat < 2 ^ 24 * 2 ^ 149 := Nat.lt_of_le_of_lt (Nat.mul_le_mul_left _ h1) (Nat.mul_lt_mul_of_pos_right f1 (Nat.two_pow_pos _))
          rw [p2] at h2
          exact absurd hge (Nat.not_le.mpr h2)
        · omega
      refine ⟨c * 2 ^ q.toNat, ?_⟩
      rw [hzm, Nat.mul_assoc, p2]
      congr 2
      omega
  obtain ⟨D, hD⟩ := hD
  have hp : 0 < 2 ^ 149 := Nat.two_pow_pos _
  have hD31 : D ≤ 2 ^ 31 := by
    rw [hD] at hup
    exact Nat.le_of_mul_le_mul_right hup hp
  refine ⟨c, q, D, by rw [← hs]; exact hc, ?_, hD31, fun h0 => ?_, fun h0 => ?_, ?_⟩
  · rw [← hD]
    show _ = FP.Core.zmag FP.Core.b32 (FP.Core.val32 (FP.Core.i2f op))
    rw [hc]
    rfl
  · have := u32_ge (FP.Core.i2f_fin op) (K := 127) (by decide) (FP.Core.i2f_big (FP.Core.int32_ne h0)).1
    rw [hD, p2] at this
    rcases Nat.eq_zero_or_pos D with z | z
    · rw [z, Nat.zero_mul] at this
      exact absurd this (by have := Nat.two_pow_pos (23 + (127 - 1)); omega)
    · exact z
  · subst h0
    have h1 : FP.Core.val32 (FP.Core.i2f 0) = .fin false 0 FP.Core.b32.qmin := by decide +kernel
    rw [h1] at hc
    cases hc
    rfl
  · have e1 := FP.Core.toInt_zmag FP.Core.good_b32 (FP.Core.val32_fits (FP.Core.i2f op)) (FP.Core.i2f_fin op).ne_nan (lo := -2 ^ 63) (hi := 2 ^ 63 - 1) (by decide +kernel) (by decide +kernel) (by decide)
    have e2 : FP.Core.zmag FP.Core.b32 (FP.Core.val32 (FP.Core.i2f op)) / 2 ^ (-FP.Core.b32.qmin).toNat = D := by
      rw [show FP.Core.zmag FP.Core.b32 (FP.Core.val32 (FP.Core.i2f op)) = D * 2 ^ 149 from hD, FP.Core.qmin_b32, show (-(-149 : Int)).toNat = 149 by decide]
      exact Nat.mul_div_cancel _ hp
    rw [e2] at e1
    show (Int64.ofInt (FP.Core.toInt (-2 ^ 63) (2 ^ 63 - 1) (FP.Core.val32 (FP.Core.i2f op)))).toInt.natAbs = D
    have e3 : FP.Core.toInt (-2 ^ 63) (2 ^ 63 - 1) (FP.Core.val32 (FP.Core.i2f op)) = FP.Core.signed (FP.Core.sgn (FP.Core.val32 (FP.Core.i2f op))) D := by
      rw [e1]
      unfold FP.Core.signed
      split <;> omega
    have e4 : -2 ^ 63 ≤ FP.Core.signed (FP.Core.sgn (FP.Core.val32 (FP.Core.i2f op))) D ∧ FP.Core.signed (FP.Core.sgn (FP.Core.val32 (FP.Core.i2f op))) D < 2 ^ 63 := by
      unfold FP.Core.signed
      split <;> omega
    rw [e3, Int64.toInt_ofInt_of_le e4.1 e4.2, FP.Core.natAbs_signed]
