/-! elements: the remainder keeps the relation -/
theorem drm_ok {x w : UInt64} : FP.Core.val64 (FP.drem x w) = FP.Core.round FP.Core.b64 (FP.Core.exactRemainder (FP.Core.val64 x) (FP.Core.val64 w)) := FP.Core.val64_drem x w
theorem frm_ok {x w : UInt32} : FP.Core.val32 (FP.frem x w) = FP.Core.round FP.Core.b32 (FP.Core.exactRemainder (FP.Core.val32 x) (FP.Core.val32 w)) := FP.Core.val32_frem x w
theorem sg_if {s : Bool} {n k : Nat} {z : Int} (hz : z = FP.Core.signed s n) (hk : n = 0 → k = 0) : (if 0 ≤ z then (k : Int) else -(k : Int)) = FP.Core.signed s k := by
  subst hz
  unfold FP.Core.signed
  cases s with
  | true =>
    simp only [if_true]
    by_cases h : 0 ≤ -(n : Int)
    · rw [if_pos h, hk (by omega)]; rfl
    · rw [if_neg h]
  | false =>
    simp only [Bool.false_eq_true, if_false]
    rw [if_pos (by omega)]
theorem rE_rem3 {m : Int32} {x y y1 : UInt64} {op : Int32} (h : rE 3 m x y) (hr : rfD 3 1 y op y1) : rE 3 (rmE 3 m x op).1 (rmE 3 m x op).2 y1 := by
  have hr : alike64 y1 (FP.drem y (FP.i2d op)) = true := hr
  obtain ⟨a1, a2⟩ := al64 hr
  have a3 := a1
  rw [drm_ok] at a1
  obtain ⟨c, q, hw, hu⟩ := val_i2d op
  rw [hw] at a1
  have nanc : FP.Core.val64 y1 = .nan → rE 3 3 x y1 := fun z => Or.inr (Or.inr (Or.inr ⟨rfl, z⟩))
  rcases h with ⟨rfl, h1, h2, h3, -⟩ | ⟨rfl, h⟩ | ⟨rfl, h⟩ | ⟨rfl, h⟩
  · unfold rmE
    by_cases h0 : op = 0
    · rw [if_pos (Or.inr h0)]
      refine nanc ?_
      have hc : c = 0 := by
        rw [h0] at hu
        exact inU0.mp (hu.trans (by decide +kernel))
      have hy : pF y := by
        rcases h2 with rfl | ⟨-, zy⟩
        · exact h1
        · exact zy.fin
      obtain ⟨s, c1, q1, ey⟩ := hy
      rw [a1, ey, hc]
      rfl
    · rw [if_neg (by rintro (z | z); exact z rfl; exact h0 z), if_neg (by decide)]
      have hD1 := op_pos h0
      have hD2 := FP.Core.int32_abs op
      have hdv : op.toInt64.toInt.natAbs = op.toInt.natAbs := by rw [Int32.toInt_toInt64]
      obtain ⟨x1, x2⟩ := rm_spec h1 h3 hD1 hD2 hdv
      have hd0 : c ≠ 0 := fun z => by
        rw [inU0.mpr z] at hu
        have := Nat.mul_pos hD1 oO_pos
        omega
      have hy : pF y := by
        rcases h2 with rfl | ⟨-, zy⟩
        · exact h1
        · exact zy.fin
      obtain ⟨s, c1, q1, ey⟩ := id hy
      obtain ⟨c2, q2, e1, e2⟩ := FP.Core.drem_exact ey hw hd0
      have ey1 : y1 = FP.drem y (FP.i2d op) := a2 (nn64 e1)
      have fy1 : pF y1 := by rw [ey1]; exact ⟨_, _, _, e1⟩
      have zmy : zm x = zm y := by
        rcases h2 with rfl | ⟨zx, zy⟩
        · rfl
        · rw [← zm_abs, ← zm_abs, pZ_zv zx, pZ_zv zy]
      have zy1 : zv y1 = FP.Core.signed s (zm x % (oO * op.toInt.natAbs)) := by
        rw [ey1, (fin_zm e1).2, (fin_zm e1).1, e2, ← (fin_zm ey).1, hu, zmy, Nat.mul_comm oO]
      have zx1 : zv (rmV x op.toInt64) = FP.Core.signed s (zm x % (oO * op.toInt.natAbs)) := by
        rw [x2]
        rcases h2 with rfl | ⟨zx, zy⟩
        · exact sg_if (n := zm x) (fin_zm ey).2 (fun z => by rw [z, Nat.zero_mod])
        · have hz : zm x = 0 := by rw [← zm_abs, pZ_zv zx]; rfl
          rw [hz, Nat.zero_mod, FP.Core.signed_zero]
          split <;> rfl
      refine Or.inl ⟨rfl, x1, zv_eq x1 fy1 (zx1.trans zy1.symm), ?_, fun z => by omega⟩
      rw [← zm_abs, zx1, FP.Core.natAbs_signed]
      exact Nat.le_trans (Nat.mod_le _ _) h3
  · unfold rmE
    rw [if_pos (Or.inl (by decide))]
    exact nanc (by rw [a1, h]; rfl)
  · unfold rmE
    rw [if_pos (Or.inl (by decide))]
    exact nanc (by rw [a1, h]; rfl)
  · unfold rmE
    rw [if_pos (Or.inl (by decide))]
    exact nanc (by rw [a1, h]; rfl)
theorem rE_rem2 {m : Int32} {x y y1 : UInt64} {op : Int32} (h : rE 2 m x y) (hr : rfD 2 1 y op y1) : rE 2 (rmE 2 m x op).1 (rmE 2 m x op).2 y1 := by
  obtain ⟨z, z1, r1, r2, r3⟩ : ∃ z z1, alike32 z (FP.d2f y) = true ∧ alike32 z1 (FP.frem z (FP.i2f op)) = true ∧ alike64 y1 (FP.f2d z1) = true := hr
  obtain ⟨b1, -⟩ := al32 r1
  obtain ⟨c1, c2⟩ := al32 r2
  obtain ⟨d1, d2⟩ := al64 r3
  rw [frm_ok] at c1
  obtain ⟨c, q, D, hw, hu, hD31, hD1, hc0, hfl⟩ := val_i2f op
  rw [hw] at c1
  have nanc : FP.Core.val32 z1 = .nan → rE 2 3 x y1 := fun w => Or.inr (Or.inr (Or.inr ⟨rfl, by rw [d1]; exact f2d_nanv w⟩))
  rcases h with ⟨rfl, h1, h2, h3, h4⟩ | ⟨rfl, h⟩ | ⟨rfl, h⟩ | ⟨rfl, h⟩
  · obtain ⟨zx, hzx, hxz⟩ := h4 rfl
    have hzz := z_of hzx hxz h2 r1
    have hzf : FP.Core.FFin z := by
      rcases hzz with rfl | ⟨-, -, s, q1, e⟩
      · exact hzx
      · exact ⟨s, 0, q1, e⟩
    obtain ⟨s, c3, q3, ez⟩ := id hzf
    unfold rmE
    by_cases h0 : op = 0
    · rw [if_pos (Or.inr h0)]
      refine nanc ?_
      rw [c1, ez, hc0 h0]
      rfl
    · rw [if_neg (by rintro (w | w); exact w rfl; exact h0 w), if_pos rfl]
      obtain ⟨x1, x2⟩ := rm_spec h1 h3 (hD1 h0) hD31 hfl
      have hd0 : c ≠ 0 := fun w => by
        rw [inU0.mpr w] at hu
        have := Nat.mul_pos (hD1 h0) (Nat.two_pow_pos 149)
        omega
      obtain ⟨c5, q5, e1, e2⟩ := FP.Core.frem_exact ez hw hd0
      have ez1 : z1 = FP.frem z (FP.i2f op) := c2 (nn32 e1)
      have fz1 : FP.Core.FFin z1 := by rw [ez1]; exact ⟨_, _, _, e1⟩
      have ev1 : FP.Core.val32 z1 = .fin s c5 q5 := by rw [ez1]; exact e1
      obtain ⟨c6, q6, e5, e6⟩ := f2d_val ev1
      have fy : pF (FP.f2d z1) := ⟨_, _, _, e5⟩
      have ey1 : y1 = FP.f2d z1 := d2 (nn64 e5)
      have zmz : zm x = zm3 z * 2 ^ 925 := by
        rcases hzz with rfl | ⟨zx1, -, s9, q9, e⟩
        · rw [hxz]; exact (f2d_z hzx).2
        · rw [fin_zm3 e, inU0.mpr rfl, Nat.zero_mul, ← zm_abs, pZ_zv zx1]; rfl
      have hmod : zm x % (oO * D) = (zm3 z % (D * 2 ^ 149)) * 2 ^ 925 := by
        rw [zmz, show oO * D = D * 2 ^ 149 * 2 ^ 925 by rw [oO_eq, Nat.mul_assoc, p2, Nat.mul_comm], Nat.mul_mod_mul_right]
      have zy1 : zv y1 = FP.Core.signed s (zm x % (oO * D)) := by
        rw [ey1, (fin_zm e5).2, (fin_zm e5).1, e6, e2, hmod, ← fin_zm3 ez, hu]
      have zx1 : zv (rmV x (FP.f2l (FP.i2f op))) = FP.Core.signed s (zm x % (oO * D)) := by
        rw [x2]
        rcases hzz with rfl | ⟨zx1, -, s9, q9, e⟩
        · obtain ⟨c7, q7, e8, e9⟩ := f2d_val ez
          rw [← hxz] at e8
          exact sg_if (n := zm x) (fin_zm e8).2 (fun w => by rw [w, Nat.zero_mod])
        · have hz : zm x = 0 := by rw [← zm_abs, pZ_zv zx1]; rfl
          rw [hz, Nat.zero_mod, FP.Core.signed_zero]
          split <;> rfl
      have hq := zv_eq x1 (show pF y1 by rw [ey1]; exact fy) (zx1.trans zy1.symm)
      refine Or.inl ⟨rfl, x1, hq, ?_, fun _ => ?_⟩
      · rw [← zm_abs, zx1, FP.Core.natAbs_signed]
        exact Nat.le_trans (Nat.mod_le _ _) h3
      · rcases hq with w | ⟨w, -⟩
        · exact ⟨z1, fz1, w.trans ey1⟩
        · exact pZ_bits w
  · unfold rmE
    rw [if_pos (Or.inl (by decide))]
    refine nanc ?_
    rw [c1, b1, d2f_inf h]; rfl
  · unfold rmE
    rw [if_pos (Or.inl (by decide))]
    refine nanc ?_
    rw [c1, b1, d2f_inf h]; rfl
  · unfold rmE
    rw [if_pos (Or.inl (by decide))]
    refine nanc ?_
    rw [c1, b1, d2f_nanv h]; rfl
