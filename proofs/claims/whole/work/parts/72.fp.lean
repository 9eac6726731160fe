/-! numbers: doubles as whole numbers of the least ones -/
abbrev pF (x : UInt64) : Prop := FP.Core.DFin x
abbrev pZ (x : UInt64) : Prop := FP.Core.DZero x
abbrev zv (x : UInt64) : Int := FP.Core.zval FP.Core.b64 (FP.Core.val64 x)
abbrev zm (x : UInt64) : Nat := FP.Core.zmag FP.Core.b64 (FP.Core.val64 x)
abbrev oO : Nat := FP.Core.one64
theorem n64_fin {x : UInt64} (h : pF x) : vf_n64 x := by
  have h1 := (FP.Core.fin_bits x).mp h
  unfold vf_n64
  rw [UInt64.le_iff_toNat_le, FP.Core.mask_toNat]
  show x.toNat % 2 ^ 63 ≤ 9218868437227405312
  omega
theorem n32_fin {x : UInt32} (h : FP.Core.FFin x) : vf_n32 x := by
  have h1 := (FP.Core.fin_bits32 x).mp h
  have e : (x &&& 0x7fffffff).toNat = x.toNat % 2 ^ 31 := by
    rw [UInt32.toNat_and]
    exact Nat.and_two_pow_sub_one_eq_mod _ 31
  unfold vf_n32
  rw [UInt32.le_iff_toNat_le, e]
  show x.toNat % 2 ^ 31 ≤ 2139095040
  omega
theorem zm_abs (x : UInt64) : (zv x).natAbs = zm x := FP.Core.natAbs_signed _ _
theorem zv_eq {x y : UInt64} (hx : pF x) (hy : pF y) (h : zv x = zv y) : x = y ∨ (pZ x ∧ pZ y) := by
  have nx := hx.ne_nan
  have ny := hy.ne_nan
  have e1 : zm x = zm y := by rw [← zm_abs, ← zm_abs, h]
  have e1 := (FP.Core.zmag_bits nx).symm.trans (e1.trans (FP.Core.zmag_bits ny))
  have e2 : x.toNat % 2 ^ 63 = y.toNat % 2 ^ 63 := by
    rcases Nat.lt_trichotomy (x.toNat % 2 ^ 63) (y.toNat % 2 ^ 63) with z | z | z
    · exact absurd e1 (Nat.ne_of_lt (FP.Core.unitsOf_lt z))
    · exact z
    · exact absurd e1.symm (Nat.ne_of_lt (FP.Core.unitsOf_lt z))
  by_cases h0 : x.toNat % 2 ^ 63 = 0
  · exact Or.inr ⟨(FP.Core.zero_bits2 x).mpr h0, (FP.Core.zero_bits2 y).mpr (by omega)⟩
  · left
    have hne : zm x ≠ 0 := fun z => h0 (FP.Core.unitsOf_eq_zero.mp ((FP.Core.zmag_bits nx).symm.trans z))
    have hs : FP.Core.sgn (FP.Core.val64 x) = FP.Core.sgn (FP.Core.val64 y) := by
      have a1 := FP.Core.signed_lt_zero (FP.Core.sgn (FP.Core.val64 x)) (c := zm x) (by omega)
      have a2 := FP.Core.signed_lt_zero (FP.Core.sgn (FP.Core.val64 y)) (c := zm y) (by rw [← zm_abs, ← h, zm_abs]; omega)
      rw [← a1, ← a2]
      exact congrArg (fun z : Int => decide (z < 0)) h
    rw [FP.Core.sgn_bits nx, FP.Core.sgn_bits ny, decide_eq_decide] at hs
    apply UInt64.toNat_inj.mp
    have := x.toNat_lt
    have := y.toNat_lt
    omega
theorem zv_zero {x : UInt64} (hx : pF x) : zv x = 0 ↔ pZ x := (FP.Core.zval_eq_zero hx.ne_nan).trans (FP.Core.zero_bits2 x).symm
theorem pZ_zv {x : UInt64} (h : pZ x) : zv x = 0 := (zv_zero h.fin).mpr h
/-- a quotient by what is at least 1 is finite, and no greater -/
theorem quot_le {f : FP.Core.Fmt} (hf : FP.Core.Good f) {s t : Bool} {c d : Nat} {q r : Int} (hx : FP.Core.fits f (.fin s c q)) (hy : FP.Core.fits f (.fin t d r)) (hd : 2 ^ (-f.qmin).toNat ≤ FP.Core.inUnits d r f.qmin) : ∃ c' q', FP.Core.quotient f (.fin s c q) (.fin t d r) = .fin (s != t) c' q' ∧ FP.Core.inUnits c' q' f.qmin ≤ FP.Core.inUnits c q f.qmin := by
  have hd0 : d ≠ 0 := by
    rintro rfl
    have := Nat.two_pow_pos (-f.qmin).toNat
    simp [FP.Core.inUnits] at hd
  have hq : FP.Core.quotient f (.fin s c q) (.fin t d r) = FP.Core.roundRatio f (s != t) c d (q - r) := by simp only [FP.Core.quotient, if_neg hd0]
  have hqm := FP.Core.qmin_neg hf
  have h1 := hx.2.1
  have h2 := hy.2.1
  have hle : FP.Core.zmag f (FP.Core.roundRatio f (s != t) c d (q - r)) ≤ FP.Core.zmag f (.fin s c q) := by
    refine FP.Core.zmag_roundRatio_le hf (e0 := min f.qmin (q - r)) (Nat.pos_of_ne_zero hd0) hx (fun z => by cases z) (by omega) (by omega) ?_
    have hm1 : min f.qmin (q - r) ≤ f.qmin := by omega
    have hm2 : min f.qmin (q - r) ≤ q - r := by omega
    generalize min f.qmin (q - r) = e0 at hm1 hm2
    show c * 2 ^ (q - r - e0).toNat ≤ c * 2 ^ (q - f.qmin).toNat * 2 ^ (f.qmin - e0).toNat * d
    have hd : 2 ^ (-f.qmin).toNat ≤ d * 2 ^ (r - f.qmin).toNat := hd
    have key : 2 ^ (q - r - e0).toNat * 2 ^ (r - f.qmin).toNat = 2 ^ (q - f.qmin).toNat * 2 ^ (f.qmin - e0).toNat * 2 ^ (-f.qmin).toNat := by
      rw [← Nat.pow_add, ← Nat.pow_add, ← Nat.pow_add]
      congr 1
      omega
    have key2 : 2 ^ (q - r - e0).toNat ≤ 2 ^ (q - f.qmin).toNat * 2 ^ (f.qmin - e0).toNat * d := by
      refine Nat.le_of_mul_le_mul_right (c := 2 ^ (r - f.qmin).toNat) ?_ (Nat.two_pow_pos _)
      rw [key, Nat.mul_assoc _ d]
      exact Nat.mul_le_mul_left _ hd
    calc c * 2 ^ (q - r - e0).toNat ≤ c * (2 ^ (q - f.qmin).toNat * 2 ^ (f.qmin - e0).toNat * d) := Nat.mul_le_mul_left _ key2
      _ = c * 2 ^ (q - f.qmin).toNat * 2 ^ (f.qmin - e0).toNat * d := by simp only [Nat.mul_assoc]
  rcases FP.Core.roundRatio_cases f (s != t) c d (q - r) with ⟨c', q', hR⟩ | hR
  · exact ⟨c', q', by rw [hq, hR], by rw [hR] at hle; exact hle⟩
  · exfalso
    rw [hR] at hle
    have h3 := FP.Core.zmag_lt_top hf hx
    have hle : f.tails * 2 ^ (f.exps - 2) ≤ FP.Core.inUnits c q f.qmin := hle
    omega
theorem qmax64 : FP.Core.b64.qmax = 971 := by decide
/-- numbers that the format has, in its least ones -/
def rep (n : Nat) : Prop := ∃ (c : Nat) (q : Int), c < 2 ^ 53 ∧ -1074 ≤ q ∧ q ≤ 971 ∧ n = c * 2 ^ (q + 1074).toNat
theorem rep_fin {x : UInt64} (h : pF x) : rep (zm x) := by
  obtain ⟨s, c, q, e⟩ := h
  have hf := e ▸ FP.Core.val64_fits x
  obtain ⟨f1, f2, f3, -⟩ := hf
  refine ⟨c, q, f1, by rw [← FP.Core.qmin_b64]; exact f2, ?_, ?_⟩
  · have : FP.Core.b64.qmax = 971 := by decide
    omega
  · show FP.Core.zmag FP.Core.b64 (FP.Core.val64 x) = _
    rw [e]
    show c * 2 ^ (q - FP.Core.b64.qmin).toNat = _
    rw [FP.Core.qmin_b64, show q - -1074 = q + 1074 by omega]
theorem rep_round {s : Bool} {n : Nat} {e : Int} (he : -1074 ≤ e) (h : rep (n * 2 ^ (e + 1074).toNat)) : ∃ c' q', FP.Core.round FP.Core.b64 (.fin s n e) = .fin s c' q' ∧ FP.Core.inUnits c' q' FP.Core.b64.qmin = n * 2 ^ (e + 1074).toNat := by
  obtain ⟨c, q, h1, h2, h3, h4⟩ := h
  have e1 : FP.Core.round FP.Core.b64 (.fin s n e) = FP.Core.round FP.Core.b64 (.fin s c q) := by
    show FP.Core.roundRatio _ s n 1 e = FP.Core.roundRatio _ s c 1 q
    refine FP.Core.roundRatio_congr (by decide) (by decide) ?_
    rw [Nat.mul_one, Nat.mul_one]
    rcases Int.le_total e q with z | z
    · rw [show (e - q).toNat = 0 by omega, Nat.pow_zero, Nat.mul_one]
      refine Nat.eq_of_mul_eq_mul_right (Nat.two_pow_pos (e + 1074).toNat) ?_
      rw [h4, Nat.mul_assoc, ← Nat.pow_add]
      congr 2
      omega
    · rw [show (q - e).toNat = 0 by omega, Nat.pow_zero, Nat.mul_one]
      refine Nat.eq_of_mul_eq_mul_right (Nat.two_pow_pos (q + 1074).toNat) ?_
      rw [← h4, Nat.mul_assoc, ← Nat.pow_add]
      congr 2
      omega
  obtain ⟨c', q', a1, a2⟩ := FP.Core.round_exact FP.Core.good_b64 s (c := c) (q := q) h1 (by rw [FP.Core.qmin_b64]; exact h2) (by rw [qmax64]; exact h3)
  refine ⟨c', q', by rw [e1, a1], ?_⟩
  rw [a2, h4]
  show c * 2 ^ (q - FP.Core.b64.qmin).toNat = _
  rw [FP.Core.qmin_b64, show q - -1074 = q + 1074 by omega]
theorem add_exact {x y : UInt64} (hx : pF x) (hy : pF y) (h : rep (zv x + zv y).natAbs) : pF (FP.dadd x y) ∧ zv (FP.dadd x y) = zv x + zv y := by
  obtain ⟨s, c, q, ex⟩ := hx
  obtain ⟨t, d, r, ey⟩ := hy
  obtain ⟨sg, n, e, a1, a2, a3⟩ := FP.Core.sum_units (ex ▸ FP.Core.val64_fits x) (ey ▸ FP.Core.val64_fits y)
  have hv : FP.Core.val64 (FP.Core.dadd x y) = FP.Core.round FP.Core.b64 (.fin sg n e) := by rw [FP.Core.val64_dadd, ex, ey, a1]
  rw [FP.Core.qmin_b64] at a2
  have hz : FP.Core.signed sg (n * 2 ^ (e + 1074).toNat) = zv x + zv y := by
    show _ = FP.Core.zval FP.Core.b64 (FP.Core.val64 x) + FP.Core.zval FP.Core.b64 (FP.Core.val64 y)
    rw [ex, ey, ← a3]
    show _ = FP.Core.signed sg (n * 2 ^ (e - FP.Core.b64.qmin).toNat)
    rw [FP.Core.qmin_b64, show e - -1074 = e + 1074 by omega]
  have hn : (zv x + zv y).natAbs = n * 2 ^ (e + 1074).toNat := by rw [← hz, FP.Core.natAbs_signed]
  rw [hn] at h
  obtain ⟨c', q', b1, b2⟩ := rep_round (s := sg) a2 h
  refine ⟨⟨sg, c', q', by rw [← b1]; exact hv⟩, ?_⟩
  show FP.Core.zval FP.Core.b64 (FP.Core.val64 (FP.Core.dadd x y)) = _
  rw [hv, b1, ← hz]
  show FP.Core.signed sg (FP.Core.inUnits c' q' FP.Core.b64.qmin) = _
  rw [b2]
theorem neg_fin {x : UInt64} (hx : pF x) : pF (FP.dneg x) ∧ zv (FP.dneg x) = - zv x := by
  have e := FP.val64_dneg x
  obtain ⟨s, c, q, ex⟩ := hx
  refine ⟨⟨!s, c, q, by rw [e, ex]; rfl⟩, ?_⟩
  show FP.Core.zval FP.Core.b64 (FP.Core.val64 (FP.dneg x)) = _
  rw [e, FP.Core.zval_negate]
theorem sub_exact {x y : UInt64} (hx : pF x) (hy : pF y) (h : rep (zv x - zv y).natAbs) : pF (FP.dsub x y) ∧ zv (FP.dsub x y) = zv x - zv y := by
  have hn : FP.Core.dIsNaN y = false := hy.notNaN
  obtain ⟨n1, n2⟩ := neg_fin hy
  have e : FP.dsub x y = FP.dadd x (FP.dneg y) := by
    rw [FP.dneg_core hn]
    exact FP.Core.dsub_eq x y
  rw [e]
  have := add_exact hx n1 (by rw [n2]; exact h)
  rw [n2] at this
  exact this
theorem l2d_exact {v : Int64} (h : rep (v.toInt.natAbs * oO)) : pF (FP.l2d v) ∧ zv (FP.l2d v) = v.toInt * (oO : Int) := by
  have hv : FP.Core.val64 (FP.Core.l2d v) = FP.Core.round FP.Core.b64 (.fin (decide (v.toInt < 0)) v.toInt.natAbs 0) := FP.Core.val64_l2d v
  obtain ⟨c', q', b1, b2⟩ := rep_round (s := decide (v.toInt < 0)) (n := v.toInt.natAbs) (e := 0) (by omega) h
  refine ⟨⟨_, c', q', by rw [← b1]; exact hv⟩, ?_⟩
  show FP.Core.zval FP.Core.b64 (FP.Core.val64 (FP.Core.l2d v)) = _
  rw [hv, b1]
  show FP.Core.signed (decide (v.toInt < 0)) (FP.Core.inUnits c' q' FP.Core.b64.qmin) = _
  have e1 : FP.Core.signed (decide (v.toInt < 0)) v.toInt.natAbs = v.toInt := by
    unfold FP.Core.signed
    by_cases h : v.toInt < 0
    · simp only [h, decide_true, if_true]; omega
    · simp only [h, decide_false, Bool.false_eq_true, if_false]; omega
  rw [b2, FP.Core.signed_mul, e1]
  rfl
