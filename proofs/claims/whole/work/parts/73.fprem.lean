/-! numbers: remainders and casts -/
theorem oO_pos : 0 < oO := FP.Core.one64_pos
theorem oO_eq : oO = 2 ^ 1074 := rfl
theorem rep_int {n : Nat} (h : n < 2 ^ 53) : rep (n * oO) := ⟨n, 0, h, by omega, by omega, rfl⟩
theorem rep_0 : rep 0 := ⟨0, 0, by decide, by omega, by omega, by simp⟩
theorem pow_split {q : Int} (h1 : -1074 ≤ q) (h2 : q < 0) : oO = 2 ^ (-q).toNat * 2 ^ (q + 1074).toNat := by
  rw [oO_eq, ← Nat.pow_add]
  congr 1
  omega
/-- the parts of a number that the format has are numbers that it has -/
theorem rep_parts {X : Nat} (h : rep X) : rep (X / oO * oO) ∧ rep (X % oO) ∧ ∀ D, 0 < D → D ≤ 2 ^ 31 → rep (X % (oO * D)) := by
  obtain ⟨c, q, h1, h2, h3, h4⟩ := h
  by_cases hq : q < 0
  · have hO := pow_split h2 hq
    have hp := Nat.two_pow_pos (q + 1074).toNat
    refine ⟨?_, ?_, fun D hD hD2 => ?_⟩
    · refine rep_int ?_
      rw [h4, hO, Nat.mul_div_mul_right _ _ hp]
      exact Nat.lt_of_le_of_lt (Nat.div_le_self _ _) h1
    · refine ⟨c % 2 ^ (-q).toNat, q, Nat.lt_of_le_of_lt (Nat.mod_le _ _) h1, h2, h3, ?_⟩
      rw [h4, hO, Nat.mul_mod_mul_right]
    · refine ⟨c % (2 ^ (-q).toNat * D), q, Nat.lt_of_le_of_lt (Nat.mod_le _ _) h1, h2, h3, ?_⟩
      rw [h4, hO, Nat.mul_right_comm, Nat.mul_mod_mul_right]
  · have e : X = c * 2 ^ q.toNat * oO := by
      rw [h4, oO_eq, Nat.mul_assoc, ← Nat.pow_add]
      congr 2
      omega
    refine ⟨?_, ?_, fun D hD hD2 => ?_⟩
    · rw [e, Nat.mul_div_cancel _ oO_pos, ← e]
      exact ⟨c, q, h1, h2, h3, h4⟩
    · rw [e, Nat.mul_mod_left]
      exact rep_0
    · rw [e, Nat.mul_comm oO D, Nat.mul_mod_mul_right]
      refine rep_int ?_
      have := Nat.mod_lt (c * 2 ^ q.toNat) hD
      omega
/-- the cast of what is not above zero -/
theorem d2l_neg {b : UInt64} (hb : pF b) (h0 : zv b ≤ 0) (hm : zm b ≤ 2 ^ 63 * oO) : (FP.d2l b).toInt = -((zm b / oO : Nat) : Int) := by
  have hW : zm b / oO ≤ 2 ^ 63 := Nat.div_le_of_le_mul (by rw [Nat.mul_comm]; exact hm)
  have e1 := FP.Core.toInt_zmag FP.Core.good_b64 (FP.Core.val64_fits b) hb.ne_nan (lo := -2 ^ 63) (hi := 2 ^ 63 - 1) (by decide +kernel) (by decide +kernel) (by decide)
  have e2 : FP.Core.signed (FP.Core.sgn (FP.Core.val64 b)) (zm b / oO) = -((zm b / oO : Nat) : Int) := by
    have h0 : FP.Core.signed (FP.Core.sgn (FP.Core.val64 b)) (zm b) ≤ 0 := h0
    unfold FP.Core.signed at h0 ⊢
    by_cases hs : FP.Core.sgn (FP.Core.val64 b) = true
    · rw [if_pos hs]
    · rw [if_neg hs] at h0 ⊢
      have : zm b = 0 := by omega
      rw [this]; simp
  have e3 : FP.Core.toInt (-2 ^ 63) (2 ^ 63 - 1) (FP.Core.val64 b) = -((zm b / oO : Nat) : Int) := by
    rw [e1, FP.Core.pow_qmin64, e2]
    generalize zm b / oO = W at hW
    have : (W : Int) ≤ 2 ^ 63 := by exact_mod_cast hW
    omega
  show (Int64.ofInt (FP.Core.toInt (-2 ^ 63) (2 ^ 63 - 1) (FP.Core.val64 b))).toInt = _
  rw [e3]
  refine Int64.toInt_ofInt_of_le ?_ ?_
  · have : ((zm b / oO : Nat) : Int) ≤ 2 ^ 63 := by exact_mod_cast hW
    omega
  · have : (0 : Int) ≤ ((zm b / oO : Nat) : Int) := Int.natCast_nonneg _
    omega
theorem lrem_toInt (x y : Int64) : (x - x / y * y).toInt = x.toInt.tmod y.toInt := by
  have hb : (x.toInt.tmod y.toInt).bmod (2 ^ 64) = x.toInt.tmod y.toInt := by
    have h1 := x.le_toInt
    have h2 := x.toInt_lt
    have h3 : (x.toInt.tmod y.toInt).natAbs ≤ x.toInt.natAbs := by
      rw [Int.natAbs_tmod]
      exact Nat.mod_le _ _
    have h4 : 0 ≤ x.toInt → 0 ≤ x.toInt.tmod y.toInt := fun z => Int.tmod_nonneg _ z
    have h5 : x.toInt ≤ 0 → x.toInt.tmod y.toInt ≤ 0 := fun z => by
      have h6 := Int.tmod_nonneg y.toInt (show 0 ≤ -x.toInt by omega)
      rw [Int.neg_tmod] at h6
      omega
    refine Int.bmod_eq_of_le ?_ ?_ <;> omega
  rw [Int64.toInt_sub, Int64.toInt_mul, Int64.toInt_div]
  simp only [Int.sub_bmod_bmod, Int.bmod_mul_bmod, Int.mul_bmod_bmod]
  rw [← hb, Int.tmod_def]
  congr 2
  exact Int.mul_comm _ _
theorem tmod_nat {y : Int} {D : Nat} (W : Nat) (h : y.natAbs = D) : ((W : Nat) : Int).tmod y = ((W % D : Nat) : Int) := by
  have : y = (D : Int) ∨ y = -(D : Int) := by omega
  rcases this with z | z
  · rw [z]; rfl
  · rw [z, Int.tmod_neg]; rfl
/-- what the class keeps of a number divided by a whole one -/
def rmV (x : UInt64) (dv : Int64) : UInt64 :=
  if 0 ≤ FP.cmpInt 1 (FP.dcmp x 0) then FP.dneg (FP.dadd (FP.l2d (FP.d2l (FP.dneg x) - FP.d2l (FP.dneg x) / dv * dv)) (FP.dsub (FP.dneg x) (FP.l2d (FP.d2l (FP.dneg x)))))
  else FP.dadd (FP.l2d (FP.d2l x - FP.d2l x / dv * dv)) (FP.dsub x (FP.l2d (FP.d2l x)))
theorem rm_core {b : UInt64} (hb : pF b) (h0 : zv b ≤ 0) (hm : zm b ≤ 2 ^ 63 * oO) {dv : Int64} {D : Nat} (hD : 0 < D) (hD2 : D ≤ 2 ^ 31) (hdv : dv.toInt.natAbs = D) : pF (FP.l2d (FP.d2l b)) ∧ pF (FP.l2d (FP.d2l b - FP.d2l b / dv * dv)) ∧ pF (FP.dsub b (FP.l2d (FP.d2l b))) ∧ pF (FP.dadd (FP.l2d (FP.d2l b - FP.d2l b / dv * dv)) (FP.dsub b (FP.l2d (FP.d2l b)))) ∧ zv (FP.dadd (FP.l2d (FP.d2l b - FP.d2l b / dv * dv)) (FP.dsub b (FP.l2d (FP.d2l b)))) = -((zm b % (oO * D) : Nat) : Int) := by
  obtain ⟨r1, r2, r3⟩ := rep_parts (rep_fin hb)
  have hX : zv b = -((zm b : Nat) : Int) := by
    have := zm_abs b
    omega
  have hw := d2l_neg hb h0 hm
  have hmod := Nat.mod_add_div (zm b) oO
  have hmm := Nat.mod_mul (a := oO) (b := D) (x := zm b)
  obtain ⟨a1, a2⟩ := l2d_exact (v := FP.d2l b) (by rw [hw, Int.natAbs_neg, Int.natAbs_natCast]; exact r1)
  rw [hw] at a2
  have e4 : ((FP.d2l b - FP.d2l b / dv * dv).toInt) = -((zm b / oO % D : Nat) : Int) := by
    rw [lrem_toInt, hw, Int.neg_tmod]
    exact congrArg (fun z : Int => -z) (tmod_nat _ hdv)
  have hlt := Nat.mod_lt (zm b / oO) hD
  obtain ⟨b1, b2⟩ := l2d_exact (v := FP.d2l b - FP.d2l b / dv * dv) (by rw [e4, Int.natAbs_neg, Int.natAbs_natCast]; exact rep_int (by omega))
  rw [e4] at b2
  have e5 : zv b - zv (FP.l2d (FP.d2l b)) = -((zm b % oO : Nat) : Int) := by
    rw [hX, a2]
    have : ((zm b : Nat) : Int) = ((zm b % oO : Nat) : Int) + (oO : Int) * ((zm b / oO : Nat) : Int) := by exact_mod_cast hmod.symm
    rw [this, Int.neg_mul, Int.mul_comm ((zm b / oO : Nat) : Int) (oO : Int)]
    omega
  obtain ⟨c1, c2⟩ := sub_exact hb a1 (by rw [e5, Int.natAbs_neg, Int.natAbs_natCast]; exact r2)
  rw [e5] at c2
  have e6 : zv (FP.l2d (FP.d2l b - FP.d2l b / dv * dv)) + zv (FP.dsub b (FP.l2d (FP.d2l b))) = -((zm b % (oO * D) : Nat) : Int) := by
    rw [b2, c2]
    have : ((zm b % (oO * D) : Nat) : Int) = ((zm b % oO : Nat) : Int) + (oO : Int) * ((zm b / oO % D : Nat) : Int) := by exact_mod_cast hmm
    rw [this, Int.neg_mul, Int.mul_comm ((zm b / oO % D : Nat) : Int) (oO : Int)]
    omega
  obtain ⟨d1, d2⟩ := add_exact b1 c1 (by rw [e6, Int.natAbs_neg, Int.natAbs_natCast]; exact r3 D hD hD2)
  rw [e6] at d2
  exact ⟨a1, b1, c1, d1, d2⟩
theorem cmp0 {x : UInt64} (hx : pF x) : (0 ≤ FP.cmpInt 1 (FP.dcmp x 0) ↔ 0 ≤ zv x) ∧ (FP.cmpInt (-1) (FP.dcmp x 0) ≤ 0 ↔ zv x ≤ 0) := by
  have e : FP.dcmp x 0 = some (compare (zv x) 0) := by
    have := FP.Core.dcmp_zval (b := 0) hx.ne_nan (by rw [FP.Core.val64_zero]; exact fun z => by cases z)
    rw [FP.Core.zval64_zero] at this
    exact this
  rw [e]
  rcases Int.lt_trichotomy (zv x) 0 with z | z | z
  · rw [(FP.Core.compare_lt_iff _ _).mpr z]
    exact ⟨⟨fun h => absurd h (by decide), fun h => by omega⟩, ⟨fun _ => by omega, fun _ => by decide⟩⟩
  · rw [(FP.Core.compare_eq_iff _ _).mpr z]
    exact ⟨⟨fun _ => by omega, fun _ => by decide⟩, ⟨fun _ => by omega, fun _ => by decide⟩⟩
  · rw [(FP.Core.compare_gt_iff _ _).mpr z]
    exact ⟨⟨fun _ => by omega, fun _ => by decide⟩, ⟨fun h => absurd h (by decide), fun h => by omega⟩⟩
theorem rm_spec {x : UInt64} (hx : pF x) (hm : zm x ≤ 2 ^ 63 * oO) {dv : Int64} {D : Nat} (hD : 0 < D) (hD2 : D ≤ 2 ^ 31) (hdv : dv.toInt.natAbs = D) : pF (rmV x dv) ∧ zv (rmV x dv) = if 0 ≤ zv x then ((zm x % (oO * D) : Nat) : Int) else -((zm x % (oO * D) : Nat) : Int) := by
  unfold rmV
  by_cases h : 0 ≤ zv x
  · rw [if_pos ((cmp0 hx).1.mpr h), if_pos h]
    obtain ⟨n1, n2⟩ := neg_fin hx
    have em : zm (FP.dneg x) = zm x := by rw [← zm_abs, n2, Int.natAbs_neg, zm_abs]
    obtain ⟨-, -, -, d1, d2⟩ := rm_core n1 (by omega) (by rw [em]; exact hm) hD hD2 hdv
    obtain ⟨f1, f2⟩ := neg_fin d1
    refine ⟨f1, ?_⟩
    rw [f2, d2, em, Int.neg_neg]
  · rw [if_neg (fun z => h ((cmp0 hx).1.mp z)), if_neg h]
    obtain ⟨-, -, -, d1, d2⟩ := rm_core hx (by omega) hm hD hD2 hdv
    exact ⟨d1, d2⟩
