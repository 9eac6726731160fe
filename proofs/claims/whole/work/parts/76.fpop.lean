/-! elements: division and remainder keep the relation -/
def dvE (t : Nat) (m : Int32) (x : UInt64) (op : Int32) : Int32 × UInt64 :=
  if m = 3 then (m, x)
  else if m = 0 then (if op = 0 then ((if FP.cmpInt (-1) (FP.dcmp x 0) ≤ 0 then (if 0 ≤ FP.cmpInt 1 (FP.dcmp x 0) then 3 else 2) else 1), x)
    else (m, if t = 2 then FP.f2d (FP.fdiv (FP.d2f x) (FP.i2f op)) else FP.ddiv x (FP.i2d op)))
  else if op < 0 then ((if m = 1 then 2 else 1), x) else (m, x)
def rmE (t : Nat) (m : Int32) (x : UInt64) (op : Int32) : Int32 × UInt64 := if m ≠ 0 ∨ op = 0 then (3, x) else (m, rmV x (if t = 2 then FP.f2l (FP.i2f op) else op.toInt64))
/-- what the reference may answer: a NaN is any NaN -/
def rfD (t : Nat) (o : Int32) (y : UInt64) (op : Int32) (y1 : UInt64) : Prop :=
  if t = 2 then ∃ z z1, alike32 z (FP.d2f y) = true ∧ alike32 z1 (if o = 0 then FP.fdiv z (FP.i2f op) else FP.frem z (FP.i2f op)) = true ∧ alike64 y1 (FP.f2d z1) = true
  else alike64 y1 (if o = 0 then FP.ddiv y (FP.i2d op) else FP.drem y (FP.i2d op)) = true
theorem inU0 {c : Nat} {q e : Int} : FP.Core.inUnits c q e = 0 ↔ c = 0 := by
  unfold FP.Core.inUnits
  have := Nat.two_pow_pos (q - e).toNat
  constructor
  · intro h
    rcases Nat.mul_eq_zero.mp h with z | z
    · exact z
    · omega
  · rintro rfl
    exact Nat.zero_mul _
theorem op_pos {op : Int32} (h : op ≠ 0) : 1 ≤ op.toInt.natAbs := by
  have := FP.Core.int32_ne h
  omega
theorem fin_zm {x : UInt64} {s : Bool} {c : Nat} {q : Int} (h : FP.Core.val64 x = .fin s c q) : zm x = FP.Core.inUnits c q FP.Core.b64.qmin ∧ zv x = FP.Core.signed s (zm x) := by
  have e : zm x = FP.Core.inUnits c q FP.Core.b64.qmin := by
    show FP.Core.zmag FP.Core.b64 (FP.Core.val64 x) = _
    rw [h]; rfl
  refine ⟨e, ?_⟩
  rw [e]
  show FP.Core.zval FP.Core.b64 (FP.Core.val64 x) = _
  rw [h]; rfl
theorem fin_zm3 {z : UInt32} {s : Bool} {c : Nat} {q : Int} (h : FP.Core.val32 z = .fin s c q) : zm3 z = FP.Core.inUnits c q FP.Core.b32.qmin := by
  show FP.Core.zmag FP.Core.b32 (FP.Core.val32 z) = _
  rw [h]; rfl
theorem sg_pos {s : Bool} {n : Nat} : (0 < FP.Core.signed s n → s = false ∧ n ≠ 0) ∧ (FP.Core.signed s n < 0 → s = true ∧ n ≠ 0) ∧ (FP.Core.signed s n = 0 → n = 0) := by
  unfold FP.Core.signed
  cases s with
  | true =>
    rw [if_pos rfl]
    exact ⟨fun h => by omega, fun h => ⟨rfl, by omega⟩, fun h => by omega⟩
  | false =>
    rw [if_neg (by decide)]
    exact ⟨fun h => ⟨rfl, by omega⟩, fun h => by omega, fun h => by omega⟩
/-- division by zero, by the datum of the dividend -/
theorem mk0 {t : Nat} {x y1 : UInt64} (hx : pF x) {s : Bool} {n : Nat} (hz : zv x = FP.Core.signed s n) (h : FP.Core.val64 y1 = if n = 0 then .nan else .inf s) : rE t (if FP.cmpInt (-1) (FP.dcmp x 0) ≤ 0 then (if 0 ≤ FP.cmpInt 1 (FP.dcmp x 0) then 3 else 2) else 1) x y1 := by
  obtain ⟨c1, c2⟩ := cmp0 hx
  rcases Int.lt_trichotomy (zv x) 0 with z | z | z
  · rw [if_pos (c2.mpr (by omega)), if_neg (fun y => by have := c1.mp y; omega)]
    obtain ⟨rfl, h0⟩ := sg_pos.2.1 (hz ▸ z)
    rw [if_neg h0] at h
    exact Or.inr (Or.inr (Or.inl ⟨rfl, h⟩))
  · rw [if_pos (c2.mpr (by omega)), if_pos (c1.mpr (by omega))]
    have h0 := sg_pos.2.2 (hz ▸ z)
    rw [if_pos h0] at h
    exact Or.inr (Or.inr (Or.inr ⟨rfl, h⟩))
  · rw [if_neg (fun y => by have := c2.mp y; omega)]
    obtain ⟨rfl, h0⟩ := sg_pos.1 (hz ▸ z)
    rw [if_neg h0] at h
    exact Or.inr (Or.inl ⟨rfl, h⟩)
theorem q_zero {f : FP.Core.Fmt} {s t : Bool} {q r : Int} {d : Nat} (hd : d ≠ 0) : FP.Core.quotient f (.fin s 0 q) (.fin t d r) = .fin (s != t) 0 f.qmin := by
  simp only [FP.Core.quotient, if_neg hd, FP.Core.roundRatio, if_true]
theorem f2d_zero {z : UInt32} {s : Bool} {q : Int} (h : FP.Core.val32 z = .fin s 0 q) : pZ (FP.f2d z) := by
  obtain ⟨c', q', a1, a2⟩ := f2d_val h
  rw [inU0.mpr rfl, Nat.zero_mul] at a2
  rw [inU0.mp a2] at a1
  exact ⟨s, q', a1⟩
theorem d2f_zero {y : UInt64} (h : pZ y) : ∃ s q, FP.Core.val32 (FP.d2f y) = .fin s 0 q := by
  have hf := h.fin
  obtain ⟨s, q, e⟩ := h
  refine ⟨s, FP.Core.b32.qmin, ?_⟩
  rw [d2f_core hf, FP.Core.val32_d2f, e]
  show FP.Core.roundRatio _ s 0 1 q = _
  simp only [FP.Core.roundRatio, if_true]
theorem pZ_bits {x : UInt64} (h : pZ x) : ∃ z, FP.Core.FFin z ∧ x = FP.f2d z := by
  have h1 := (FP.Core.zero_bits2 x).mp h
  have h2 := x.toNat_lt
  rcases (show x.toNat = 0 ∨ x.toNat = 2 ^ 63 by omega) with z | z
  · refine ⟨0, (FP.Core.fin_bits32 0).mpr (by decide), ?_⟩
    rw [show x = 0 from UInt64.toNat_inj.mp z]
    decide +kernel
  · refine ⟨0x80000000, (FP.Core.fin_bits32 _).mpr (by decide), ?_⟩
    rw [show x = 0x8000000000000000 from UInt64.toNat_inj.mp z]
    decide +kernel
theorem nn64 {x : UInt64} {s : Bool} {c : Nat} {q : Int} (h : FP.Core.val64 x = .fin s c q) : FP.Core.val64 x ≠ .nan := by rw [h]; exact fun z => by cases z
theorem nn32 {x : UInt32} {s : Bool} {c : Nat} {q : Int} (h : FP.Core.val32 x = .fin s c q) : FP.Core.val32 x ≠ .nan := by rw [h]; exact fun z => by cases z
theorem rE_div3 {m : Int32} {x y y1 : UInt64} {op : Int32} (h : rE 3 m x y) (hr : rfD 3 0 y op y1) : rE 3 (dvE 3 m x op).1 (dvE 3 m x op).2 y1 := by
  have hr : alike64 y1 (FP.ddiv y (FP.i2d op)) = true := hr
  obtain ⟨a1, a2⟩ := al64 hr
  rw [ddv_ok] at a1
  obtain ⟨c, q, hw, hu⟩ := val_i2d op
  rw [hw] at a1
  rcases h with ⟨rfl, h1, h2, h3, -⟩ | ⟨rfl, h⟩ | ⟨rfl, h⟩ | ⟨rfl, h⟩
  · unfold dvE
    rw [if_neg (by decide), if_pos rfl]
    by_cases h0 : op = 0
    · rw [if_pos h0]
      have hc : c = 0 := by
        rw [h0] at hu
        exact inU0.mp (hu.trans (by decide +kernel))
      have hs : decide (op < 0) = false := by rw [h0]; decide
      rw [hc, hs] at a1
      rcases h2 with rfl | ⟨zx, zy⟩
      · obtain ⟨s, c1, q1, ex⟩ := id h1
        obtain ⟨b1, b2⟩ := fin_zm ex
        refine mk0 h1 (s := s) (n := zm x) b2 ?_
        rw [a1, ex]
        simp only [FP.Core.quotient, if_true]
        by_cases hc1 : c1 = 0
        · rw [if_pos hc1, if_pos (by rw [b1]; exact inU0.mpr hc1)]
        · rw [if_neg hc1, if_neg (fun z => hc1 (inU0.mp (b1.symm.trans z)))]
          cases s <;> rfl
      · refine mk0 h1 (s := false) (n := 0) (by rw [pZ_zv zx]; rfl) ?_
        obtain ⟨s, q1, ey⟩ := zy
        rw [a1, ey, if_pos rfl]
        simp only [FP.Core.quotient, if_true]
    · rw [if_neg h0, if_neg (by decide)]
      have hd : 2 ^ (-FP.Core.b64.qmin).toNat ≤ FP.Core.inUnits c q FP.Core.b64.qmin := by
        rw [hu, FP.Core.pow_qmin64]
        exact Nat.le_mul_of_pos_left _ (op_pos h0)
      have hd0 : c ≠ 0 := fun z => by
        rw [inU0.mpr z, FP.Core.pow_qmin64] at hd
        exact absurd hd (Nat.not_le.mpr oO_pos)
      obtain ⟨s, c1, q1, ex⟩ := id h1
      obtain ⟨c2, q2, e1, e2⟩ := quot_le FP.Core.good_b64 (ex ▸ FP.Core.val64_fits x) (hw ▸ FP.Core.val64_fits _) hd
      have ev : FP.Core.val64 (FP.ddiv x (FP.i2d op)) = .fin (s != decide (op < 0)) c2 q2 := by rw [ddv_ok, ex, hw, e1]
      have hle : zm (FP.ddiv x (FP.i2d op)) ≤ 2 ^ 63 * oO := by
        rw [(fin_zm ev).1]
        exact Nat.le_trans e2 (by rw [← (fin_zm ex).1]; exact h3)
      refine Or.inl ⟨rfl, ⟨_, _, _, ev⟩, ?_, hle, fun z => by omega⟩
      rcases h2 with rfl | ⟨zx, zy⟩
      · exact Or.inl (a2 (nn64 ev)).symm
      · right
        constructor
        · obtain ⟨s3, q3, e3⟩ := zx
          exact ⟨_, _, by rw [ddv_ok, e3, hw, q_zero hd0]⟩
        · obtain ⟨s3, q3, e3⟩ := zy
          exact ⟨_, _, by rw [a1, e3, q_zero hd0]⟩
  · rw [h] at a1
    unfold dvE
    rw [if_neg (by decide), if_neg (by decide)]
    by_cases ho : op < 0
    · rw [if_pos ho, if_pos rfl]
      refine Or.inr (Or.inr (Or.inl ⟨rfl, ?_⟩))
      rw [a1, show decide (op < 0) = true from decide_eq_true ho]; rfl
    · rw [if_neg ho]
      refine Or.inr (Or.inl ⟨rfl, ?_⟩)
      rw [a1, show decide (op < 0) = false from decide_eq_false ho]; rfl
  · rw [h] at a1
    unfold dvE
    rw [if_neg (by decide), if_neg (by decide)]
    by_cases ho : op < 0
    · rw [if_pos ho, if_neg (by decide)]
      refine Or.inr (Or.inl ⟨rfl, ?_⟩)
      rw [a1, show decide (op < 0) = true from decide_eq_true ho]; rfl
    · rw [if_neg ho]
      refine Or.inr (Or.inr (Or.inl ⟨rfl, ?_⟩))
      rw [a1, show decide (op < 0) = false from decide_eq_false ho]; rfl
  · rw [h] at a1
    unfold dvE
    rw [if_pos rfl]
    exact Or.inr (Or.inr (Or.inr ⟨rfl, a1⟩))
/-- the float that the reference divides: the class's, or a zero -/
theorem z_of {x y : UInt64} {zx z : UInt32} (hzx : FP.Core.FFin zx) (hx : x = FP.f2d zx) (h : x = y ∨ (pZ x ∧ pZ y)) (hz : alike32 z (FP.d2f y) = true) : z = zx ∨ (pZ x ∧ pZ y ∧ ∃ s q, FP.Core.val32 z = .fin s 0 q) := by
  obtain ⟨b1, b2⟩ := al32 hz
  rcases h with rfl | ⟨zx1, zy⟩
  · left
    rw [hx, d2f_f2d' hzx] at b2
    exact b2 hzx.ne_nan
  · right
    obtain ⟨s, q, e⟩ := d2f_zero zy
    exact ⟨zx1, zy, s, q, by rw [b1, e]⟩
theorem zero3 {zx : UInt32} {s : Bool} {c : Nat} {q : Int} (h : FP.Core.val32 zx = .fin s c q) (hz : pZ (FP.f2d zx)) : c = 0 := by
  have h1 := (f2d_z ⟨s, c, q, h⟩).2
  have h2 : zm (FP.f2d zx) = 0 := by rw [← zm_abs, pZ_zv hz]; rfl
  rw [h2, fin_zm3 h] at h1
  rcases Nat.mul_eq_zero.mp h1.symm with z | z
  · exact inU0.mp z
  · exact absurd z (Nat.ne_of_gt (Nat.two_pow_pos _))
theorem rE_div2 {m : Int32} {x y y1 : UInt64} {op : Int32} (h : rE 2 m x y) (hr : rfD 2 0 y op y1) : rE 2 (dvE 2 m x op).1 (dvE 2 m x op).2 y1 := by
  obtain ⟨z, z1, r1, r2, r3⟩ : ∃ z z1, alike32 z (FP.d2f y) = true ∧ alike32 z1 (FP.fdiv z (FP.i2f op)) = true ∧ alike64 y1 (FP.f2d z1) = true := hr
  obtain ⟨b1, -⟩ := al32 r1
  obtain ⟨c1, c2⟩ := al32 r2
  obtain ⟨d1, d2⟩ := al64 r3
  rw [fdv_ok] at c1
  obtain ⟨c, q, D, hw, hu, hD31, hD1, hc0, -⟩ := val_i2f op
  rw [hw] at c1
  have infc : ∀ s : Bool, FP.Core.val64 y = .inf s → FP.Core.val64 y1 = .inf (s != decide (op < 0)) := by
    intro s hy
    rw [b1, d2f_inf hy] at c1
    rw [d1, f2d_inf c1]
  rcases h with ⟨rfl, h1, h2, h3, h4⟩ | ⟨rfl, h⟩ | ⟨rfl, h⟩ | ⟨rfl, h⟩
  · obtain ⟨zx, hzx, hxz⟩ := h4 rfl
    have hzz := z_of hzx hxz h2 r1
    obtain ⟨s, c3, q3, ez⟩ := id hzx
    obtain ⟨c4, q4, e5, e6⟩ := f2d_val ez
    have ex : FP.Core.val64 x = .fin s c4 q4 := by rw [hxz]; exact e5
    have b2 := (fin_zm ex).2
    have bz : zm x = 0 ↔ c3 = 0 := by
      rw [(fin_zm ex).1, e6]
      constructor
      · intro hh
        rcases Nat.mul_eq_zero.mp hh with w | w
        · exact inU0.mp w
        · exact absurd w (Nat.ne_of_gt (Nat.two_pow_pos _))
      · intro hh
        rw [inU0.mpr hh, Nat.zero_mul]
    unfold dvE
    rw [if_neg (by decide), if_pos rfl]
    by_cases h0 : op = 0
    · rw [if_pos h0]
      have hs : decide (op < 0) = false := by rw [h0]; decide
      rw [hc0 h0, hs] at c1
      rcases hzz with rfl | ⟨zx1, zy, s5, q5, e7⟩
      · refine mk0 h1 (s := s) (n := zm x) b2 ?_
        rw [ez] at c1
        simp only [FP.Core.quotient, if_true] at c1
        by_cases hc3 : c3 = 0
        · rw [if_pos hc3] at c1
          rw [if_pos (bz.mpr hc3), d1]
          exact f2d_nanv c1
        · rw [if_neg hc3] at c1
          rw [if_neg (fun w => hc3 (bz.mp w)), d1]
          have c1 : FP.Core.val32 z1 = .inf s := by rw [c1]; cases s <;> rfl
          exact f2d_inf c1
      · refine mk0 h1 (s := false) (n := 0) (by rw [pZ_zv zx1]; rfl) ?_
        rw [e7] at c1
        simp only [FP.Core.quotient, if_true] at c1
        rw [if_pos rfl, d1]
        exact f2d_nanv c1
    · rw [if_neg h0, if_pos rfl]
      have hd : 2 ^ (-FP.Core.b32.qmin).toNat ≤ FP.Core.inUnits c q FP.Core.b32.qmin := by
        rw [hu, FP.Core.qmin_b32, show (-(-149 : Int)).toNat = 149 by decide]
        exact Nat.le_mul_of_pos_left _ (hD1 h0)
      have hd0 : c ≠ 0 := fun w => by
        rw [inU0.mpr w] at hd
        exact absurd hd (Nat.not_le.mpr (Nat.two_pow_pos _))
      obtain ⟨c5, q5, e1, e2⟩ := quot_le FP.Core.good_b32 (ez ▸ FP.Core.val32_fits zx) (hw ▸ FP.Core.val32_fits _) hd
      have ev : FP.Core.val32 (FP.fdiv zx (FP.i2f op)) = .fin (s != decide (op < 0)) c5 q5 := by rw [fdv_ok, ez, hw, e1]
      have hxd : FP.d2f x = zx := by rw [hxz]; exact d2f_f2d' hzx
      rw [hxd]
      obtain ⟨p1, p2'⟩ := f2d_z ⟨_, _, _, ev⟩
      have hle : zm (FP.f2d (FP.fdiv zx (FP.i2f op))) ≤ 2 ^ 63 * oO := by
        rw [p2', fin_zm3 ev]
        refine Nat.le_trans (Nat.mul_le_mul_right _ e2) ?_
        rw [← fin_zm3 ez, ← (f2d_z hzx).2, ← hxz]
        exact h3
      refine Or.inl ⟨rfl, p1, ?_, hle, fun _ => ⟨_, ⟨_, _, _, ev⟩, rfl⟩⟩
      rcases hzz with rfl | ⟨zx1, zy, s6, q6, e7⟩
      · left
        have e8 := c2 (nn32 ev)
        rw [e8] at d2
        exact (d2 p1.ne_nan).symm
      · right
        constructor
        · have hc3 : c3 = 0 := zero3 ez (hxz ▸ zx1)
          subst hc3
          exact f2d_zero (by rw [fdv_ok, ez, hw, q_zero hd0])
        · rw [e7, q_zero hd0] at c1
          have e9 := f2d_zero c1
          have e10 := d2 e9.fin.ne_nan
          rw [e10]; exact e9
  · have e := infc false h
    unfold dvE
    rw [if_neg (by decide), if_neg (by decide)]
    by_cases ho : op < 0
    · rw [if_pos ho, if_pos rfl]
      refine Or.inr (Or.inr (Or.inl ⟨rfl, ?_⟩))
      rw [e, show decide (op < 0) = true from decide_eq_true ho]; rfl
    · rw [if_neg ho]
      refine Or.inr (Or.inl ⟨rfl, ?_⟩)
      rw [e, show decide (op < 0) = false from decide_eq_false ho]; rfl
  · have e := infc true h
    unfold dvE
    rw [if_neg (by decide), if_neg (by decide)]
    by_cases ho : op < 0
    · rw [if_pos ho, if_neg (by decide)]
      refine Or.inr (Or.inl ⟨rfl, ?_⟩)
      rw [e, show decide (op < 0) = true from decide_eq_true ho]; rfl
    · rw [if_neg ho]
      refine Or.inr (Or.inr (Or.inl ⟨rfl, ?_⟩))
      rw [e, show decide (op < 0) = false from decide_eq_false ho]; rfl
  · unfold dvE
    rw [if_pos rfl]
    refine Or.inr (Or.inr (Or.inr ⟨rfl, ?_⟩))
    rw [b1, d2f_nanv h] at c1
    rw [d1]
    exact f2d_nanv c1
