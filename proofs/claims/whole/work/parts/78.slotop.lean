/-! the class Slot: its arithmetic, what is written and copied -/
theorem fdv_fin {zx : UInt32} (hzx : FP.Core.FFin zx) {op : Int32} (h0 : op ≠ 0) : FP.Core.FFin (FP.fdiv zx (FP.i2f op)) := by
  obtain ⟨c, q, D, hw, hu, hD31, hD1, hc0, -⟩ := val_i2f op
  obtain ⟨s, c3, q3, ez⟩ := id hzx
  have hd : 2 ^ (-FP.Core.b32.qmin).toNat ≤ FP.Core.inUnits c q FP.Core.b32.qmin := by
    rw [hu, FP.Core.qmin_b32, show (-(-149 : Int)).toNat = 149 by decide]
    exact Nat.le_mul_of_pos_left _ (hD1 h0)
  obtain ⟨c5, q5, e1, e2⟩ := quot_le FP.Core.good_b32 (ez ▸ FP.Core.val32_fits zx) (hw ▸ FP.Core.val32_fits _) hd
  exact ⟨_, _, _, by rw [fdv_ok, ez, hw, e1]⟩
theorem ddv_fin {x : UInt64} (hx : pF x) {op : Int32} (h0 : op ≠ 0) : pF (FP.ddiv x (FP.i2d op)) := by
  obtain ⟨c, q, hw, hu⟩ := val_i2d op
  obtain ⟨s, c1, q1, ex⟩ := id hx
  have hd : 2 ^ (-FP.Core.b64.qmin).toNat ≤ FP.Core.inUnits c q FP.Core.b64.qmin := by
    rw [hu, FP.Core.pow_qmin64]
    exact Nat.le_mul_of_pos_left _ (op_pos h0)
  obtain ⟨c2, q2, e1, e2⟩ := quot_le FP.Core.good_b64 (ex ▸ FP.Core.val64_fits x) (hw ▸ FP.Core.val64_fits _) hd
  exact ⟨_, _, _, by rw [ddv_ok, ex, hw, e1]⟩
theorem cvG (r : Option Ordering) : Op.cmpValue r .g = FP.cmpInt 1 r := by
  cases r with
  | none => rfl
  | some o => cases o <;> rfl
theorem cvL (r : Option Ordering) : Op.cmpValue r .l = FP.cmpInt (-1) r := by
  cases r with
  | none => rfl
  | some o => cases o <;> rfl
/-- what is known of an element of the class alone -/
def xE (t : Nat) (m : Int32) (x : UInt64) : Prop := m = 0 → pF x ∧ zm x ≤ 2 ^ 63 * oO ∧ (t = 2 → ∃ z, FP.Core.FFin z ∧ x = FP.f2d z)
theorem rE_x {t : Nat} {m : Int32} {x y : UInt64} (h : rE t m x y) : xE t m x := by
  intro h0
  rcases h with ⟨-, h1, -, h3, h4⟩ | ⟨rfl, -⟩ | ⟨rfl, -⟩ | ⟨rfl, -⟩
  · exact ⟨h1, h3, h4⟩
  · exact absurd h0 (by decide)
  · exact absurd h0 (by decide)
  · exact absurd h0 (by decide)
/-- an element written -/
def wrW (t : Nat) (v w : Int64) : Int64 := if t = 0 then v.toInt32.toInt8.toInt32.toInt64 else if t = 1 then v else w
def wrX (t : Nat) (v : Int64) (x : UInt64) : UInt64 := if t = 2 then FP.f2d (FP.l2f v) else if t = 3 then FP.l2d v else x
section T
variable {g : mG} {l : Launch} {d : Nat} {lk : Nat} {ex : mSh} {σ : mHp}
theorem c_remainderOf {x : UInt64} (hx : pF x) (hm : zm x ≤ 2 ^ 63 * oO) {dv : Int64} {D : Nat} (hD : 0 < D) (hD2 : D ≤ 2 ^ 31) (hdv : dv.toInt.natAbs = D) : mNP g l d 57 [.double x, .long dv] lk ex σ (.double (rmV x dv)) := by
  have h0 : dv ≠ 0 := fun z => by rw [z] at hdv; have : (0 : Int64).toInt.natAbs = 0 := by decide
                                  omega
  have ok : mOkP md_X5_remainderOf := ok_at 57 (by decide) rfl
  refine mC_of (md := md_X5_remainderOf) rfl (lt_at (by decide)) rfl ?_
  unfold rmV
  refine mGo_run (n := 400) ok rfl ?_
  refine mGo_ifI ok rfl (lg0) (fun z => ?_) (fun z => ?_)
  · exact absurd z h0
  · refine mGo_run (n := 400) ok rfl ?_
    refine mGo_if ok rfl (fun h => ?_) (fun h => ?_)
    · have h : 0 ≤ FP.cmpInt 1 (FP.dcmp x 0) := by rw [← cvG]; exact h
      rw [if_pos h]
      obtain ⟨n1, n2⟩ := neg_fin hx
      have em : zm (FP.dneg x) = zm x := by rw [← zm_abs, n2, Int.natAbs_neg, zm_abs]
      obtain ⟨a1, a2, a3, a4, -⟩ := rm_core n1 (by have := (cmp0 hx).1.mp h; omega) (by rw [em]; exact hm) hD hD2 hdv
      refine mGo_run (n := 400) ok rfl ?_
      refine mGo_side ok rfl (h0) ?_
      refine mGo_run (n := 400) ok rfl ?_
      refine mGo_side ok rfl (n64_fin a3) ?_
      refine mGo_side ok rfl (n64_fin a4) ?_
      refine mGo_run (n := 400) ok rfl ?_
      refine mGo_if ok rfl (fun h2 => ?_) (fun h2 => absurd (by rw [cvG]; exact h) h2)
      refine mGo_run (n := 400) ok rfl ?_
      exact mGo_ret ok rfl trivial (⟨rfl, rfl, rfl⟩)
    · have h : ¬ 0 ≤ FP.cmpInt 1 (FP.dcmp x 0) := by rw [← cvG]; exact h
      rw [if_neg h]
      obtain ⟨a1, a2, a3, a4, -⟩ := rm_core hx (by have := mt (cmp0 hx).1.mpr h; omega) hm hD hD2 hdv
      refine mGo_run (n := 400) ok rfl ?_
      refine mGo_side ok rfl (h0) ?_
      refine mGo_run (n := 400) ok rfl ?_
      refine mGo_side ok rfl (n64_fin a3) ?_
      refine mGo_side ok rfl (n64_fin a4) ?_
      refine mGo_run (n := 400) ok rfl ?_
      refine mGo_if ok rfl (fun h2 => absurd (by rw [← cvG]; exact h2) h) (fun h2 => ?_)
      refine mGo_run (n := 400) ok rfl ?_
      exact mGo_ret ok rfl trivial (⟨rfl, rfl, rfl⟩)
theorem c_write32 {n a t : Nat} (hn : n ≤ 40) (hl : σ.1 32 4 = nI n) (ha : a < n) (ht : t < 4) (hty : σ.1 32 3 = nI t) (v : Int64) : mNV g l (d + 1) 53 [.ref 32, .int (nI a), .long v] lk ex σ (fun σ1 => fr 33 36 σ σ1 ∧ (∀ j, σ1.2.1 33 j = if j = a then wrW t v (σ.2.1 33 j) else σ.2.1 33 j) ∧ (∀ j, σ1.2.2 34 j = if j = a then wrX t v (σ.2.2 34 j) else σ.2.2 34 j) ∧ ∀ j, σ1.1 35 j = if j = a then 0 else σ.1 35 j) := by
  have ok : mOkP md_X5_write := ok_at 53 (by decide) rfl
  refine mC_of (md := md_X5_write) rfl (lt_at (by decide)) rfl ?_
  refine mGo_run (n := 400) ok rfl ?_
  refine mGo_callP ok rfl (by omega) (c_covers32 (d := d) hl (nI a) 1) ?_
  rw [cov1 hn ha]
  refine mGo_if ok rfl (fun h => ?_) (fun h => ?_)
  · exact absurd h (by decide)
  · clear h
    refine mGo_run (n := 400) ok rfl ?_
    refine mGo_side ok rfl (nI_in (by omega) (by omega)) ?_
    rw [nI_clamp (by omega)]
    refine mGo_run (n := 400) ok rfl ?_
    rw [show (mWI σ 35 a 0).1 32 3 = nI t by rw [WI_at, if_neg (by omega)]; exact hty]
    have m0 : ∀ j, (mWI σ 35 a 0).1 35 j = if j = a then 0 else σ.1 35 j := by
      intro j
      rw [WI_at]
      by_cases z : j = a
      · rw [if_pos ⟨rfl, z⟩, if_pos z]
      · rw [if_neg (fun y => z y.2), if_neg z]
    refine mGo_sw ok rfl ⟨fun h1 => ?_, fun h1 => ⟨fun h2 => ?_, fun h2 => ⟨fun h3 => ?_, fun h3 => ?_⟩⟩⟩
    · have e : t = 0 := (nI_eq (a := t) (b := 0) (by omega) (by omega)).mp h1
      subst e
      refine mGo_run (n := 400) ok rfl ?_
      refine mGo_side ok rfl (nI_in (by omega) (by omega)) ?_
      rw [nI_clamp (by omega)]
      refine mGo_run (n := 400) ok rfl ?_
      refine mGo_ret ok rfl trivial ⟨rfl, rfl, (fr.refl.WI (by omega) (by omega)).WL (by omega) (by omega), fun j => ?_, fun j => ?_, m0⟩
      · rw [WL_at]
        by_cases z : j = a
        · rw [if_pos ⟨rfl, z⟩, if_pos z]; rfl
        · rw [if_neg (fun y => z y.2), if_neg z]; rfl
      · show σ.2.2 34 j = _
        split <;> rfl
    · have e : t = 1 := (nI_eq (a := t) (b := 1) (by omega) (by omega)).mp h2
      subst e
      refine mGo_run (n := 400) ok rfl ?_
      refine mGo_side ok rfl (nI_in (by omega) (by omega)) ?_
      rw [nI_clamp (by omega)]
      refine mGo_run (n := 400) ok rfl ?_
      refine mGo_ret ok rfl trivial ⟨rfl, rfl, (fr.refl.WI (by omega) (by omega)).WL (by omega) (by omega), fun j => ?_, fun j => ?_, m0⟩
      · rw [WL_at]
        by_cases z : j = a
        · rw [if_pos ⟨rfl, z⟩, if_pos z]; rfl
        · rw [if_neg (fun y => z y.2), if_neg z]; rfl
      · show σ.2.2 34 j = _
        split <;> rfl
    · have e : t = 2 := (nI_eq (a := t) (b := 2) (by omega) (by omega)).mp h3
      subst e
      refine mGo_run (n := 400) ok rfl ?_
      refine mGo_side ok rfl (n64_fin (l2f_ok v).2.1) ?_
      refine mGo_side ok rfl (nI_in (by omega) (by omega)) ?_
      rw [nI_clamp (by omega)]
      refine mGo_run (n := 400) ok rfl ?_
      refine mGo_ret ok rfl trivial ⟨rfl, rfl, (fr.refl.WI (by omega) (by omega)).WD (by omega) (by omega), fun j => ?_, fun j => ?_, m0⟩
      · show σ.2.1 33 j = _
        split <;> rfl
      · rw [WD_at]
        by_cases z : j = a
        · rw [if_pos ⟨rfl, z⟩, if_pos z]; rfl
        · rw [if_neg (fun y => z y.2), if_neg z]; rfl
    · have e : t = 3 := by
        have n0 : t ≠ 0 := fun z => h1 (by rw [z]; rfl)
        have n1 : t ≠ 1 := fun z => h2 (by rw [z]; rfl)
        have n2 : t ≠ 2 := fun z => h3 (by rw [z]; rfl)
        omega
      subst e
      refine mGo_run (n := 400) ok rfl ?_
      refine mGo_side ok rfl (nI_in (by omega) (by omega)) ?_
      rw [nI_clamp (by omega)]
      refine mGo_run (n := 400) ok rfl ?_
      refine mGo_ret ok rfl trivial ⟨rfl, rfl, (fr.refl.WI (by omega) (by omega)).WD (by omega) (by omega), fun j => ?_, fun j => ?_, m0⟩
      · show σ.2.1 33 j = _
        split <;> rfl
      · rw [WD_at]
        by_cases z : j = a
        · rw [if_pos ⟨rfl, z⟩, if_pos z]; rfl
        · rw [if_neg (fun y => z y.2), if_neg z]; rfl
theorem c_divide32 {n a t : Nat} (hn : n ≤ 40) (hl : σ.1 32 4 = nI n) (ha : a < n) (ht : t = 2 ∨ t = 3) (hty : σ.1 32 3 = nI t) (op : Int32) (hx : xE t (σ.1 35 a) (σ.2.2 34 a)) : mNV g l (d + 1) 55 [.ref 32, .int (nI a), .int op] lk ex σ (fun σ1 => fr 34 36 σ σ1 ∧ (∀ j, σ1.2.2 34 j = if j = a then (dvE t (σ.1 35 a) (σ.2.2 34 a) op).2 else σ.2.2 34 j) ∧ ∀ j, σ1.1 35 j = if j = a then (dvE t (σ.1 35 a) (σ.2.2 34 a) op).1 else σ.1 35 j) := by
  have ok : mOkP md_X5_divide := ok_at 55 (by decide) rfl
  refine mC_of (md := md_X5_divide) rfl (lt_at (by decide)) rfl ?_
  have same : ∀ {τ : mHp}, τ = σ → dvE t (σ.1 35 a) (σ.2.2 34 a) op = (σ.1 35 a, σ.2.2 34 a) → fr 34 36 σ τ ∧ (∀ j, τ.2.2 34 j = if j = a then (dvE t (σ.1 35 a) (σ.2.2 34 a) op).2 else σ.2.2 34 j) ∧ ∀ j, τ.1 35 j = if j = a then (dvE t (σ.1 35 a) (σ.2.2 34 a) op).1 else σ.1 35 j := by
    intro τ e1 e2
    subst e1
    rw [e2]
    refine ⟨fr.refl, fun j => ?_, fun j => ?_⟩
    · by_cases z : j = a
      · rw [if_pos z, z]
      · rw [if_neg z]
    · by_cases z : j = a
      · rw [if_pos z, z]
      · rw [if_neg z]
  have mark : ∀ k : Int32, dvE t (σ.1 35 a) (σ.2.2 34 a) op = (k, σ.2.2 34 a) → fr 34 36 σ (mWI σ 35 a k) ∧ (∀ j, (mWI σ 35 a k).2.2 34 j = if j = a then (dvE t (σ.1 35 a) (σ.2.2 34 a) op).2 else σ.2.2 34 j) ∧ ∀ j, (mWI σ 35 a k).1 35 j = if j = a then (dvE t (σ.1 35 a) (σ.2.2 34 a) op).1 else σ.1 35 j := by
    intro k e2
    rw [e2]
    refine ⟨fr.refl.WI (by omega) (by omega), fun j => ?_, fun j => ?_⟩
    · show σ.2.2 34 j = _
      by_cases z : j = a
      · rw [if_pos z, z]
      · rw [if_neg z]
    · rw [WI_at]
      by_cases z : j = a
      · rw [if_pos ⟨rfl, z⟩, if_pos z]
      · rw [if_neg (fun y => z y.2), if_neg z]
  have numb : ∀ x : UInt64, dvE t (σ.1 35 a) (σ.2.2 34 a) op = (σ.1 35 a, x) → fr 34 36 σ (mWD σ 34 a x) ∧ (∀ j, (mWD σ 34 a x).2.2 34 j = if j = a then (dvE t (σ.1 35 a) (σ.2.2 34 a) op).2 else σ.2.2 34 j) ∧ ∀ j, (mWD σ 34 a x).1 35 j = if j = a then (dvE t (σ.1 35 a) (σ.2.2 34 a) op).1 else σ.1 35 j := by
    intro x e2
    rw [e2]
    refine ⟨fr.refl.WD (by omega) (by omega), fun j => ?_, fun j => ?_⟩
    · rw [WD_at]
      by_cases z : j = a
      · rw [if_pos ⟨rfl, z⟩, if_pos z]
      · rw [if_neg (fun y => z y.2), if_neg z]
    · show σ.1 35 j = _
      by_cases z : j = a
      · rw [if_pos z, z]
      · rw [if_neg z]
  refine mGo_run (n := 400) ok rfl ?_
  refine mGo_callP ok rfl (by omega) (c_covers32 (d := d) hl (nI a) 1) ?_
  rw [cov1 hn ha]
  refine mGo_if ok rfl (fun h => ?_) (fun h => ?_)
  · exact absurd h (by decide)
  · clear h
    refine mGo_run (n := 400) ok rfl ?_
    refine mGo_side ok rfl (nI_in (by omega) (by omega)) ?_
    rw [nI_clamp (by omega)]
    refine mGo_run (n := 400) ok rfl ?_
    refine mGo_if ok rfl (fun h3 => ?_) (fun h3 => ?_)
    · refine mGo_run (n := 400) ok rfl ?_
      have h3 : σ.1 35 a = 3 := h3
      exact mGo_ret ok rfl trivial (⟨rfl, rfl, same rfl (by unfold dvE; rw [if_pos h3])⟩)
    · have h3 : ¬ σ.1 35 a = 3 := h3
      refine mGo_run (n := 400) ok rfl ?_
      refine mGo_side ok rfl (nI_in (by omega) (by omega)) ?_
      rw [nI_clamp (by omega)]
      refine mGo_run (n := 400) ok rfl ?_
      refine mGo_side ok rfl (nI_in (by omega) (by omega)) ?_
      rw [nI_clamp (by omega)]
      refine mGo_if ok rfl (fun h0 => ?_) (fun h0 => ?_)
      · have h0 : σ.1 35 a = 0 := h0
        obtain ⟨x1, x2, x3⟩ := hx h0
        refine mGo_run (n := 400) ok rfl ?_
        refine mGo_if ok rfl (fun hop => ?_) (fun hop => ?_)
        · have hop : op = 0 := hop
          have key : dvE t (σ.1 35 a) (σ.2.2 34 a) op = ((if FP.cmpInt (-1) (FP.dcmp (σ.2.2 34 a) 0) ≤ 0 then (if 0 ≤ FP.cmpInt 1 (FP.dcmp (σ.2.2 34 a) 0) then 3 else 2) else 1), σ.2.2 34 a) := by
            unfold dvE; rw [if_neg h3, if_pos h0, if_pos hop]
          refine mGo_run (n := 400) ok rfl ?_
          refine mGo_if ok rfl (fun h1 => ?_) (fun h1 => ?_)
          · have h1 : FP.cmpInt (-1) (FP.dcmp (σ.2.2 34 a) 0) ≤ 0 := by rw [← cvL]; exact h1
            refine mGo_run (n := 400) ok rfl ?_
            refine mGo_if ok rfl (fun h2 => ?_) (fun h2 => ?_)
            · have h2 : 0 ≤ FP.cmpInt 1 (FP.dcmp (σ.2.2 34 a) 0) := by rw [← cvG]; exact h2
              refine mGo_run (n := 400) ok rfl ?_
              refine mGo_side ok rfl (nI_in (by omega) (by omega)) ?_
              rw [nI_clamp (by omega)]
              refine mGo_run (n := 400) ok rfl ?_
              exact mGo_ret ok rfl trivial (⟨rfl, rfl, mark 3 (by rw [key, if_pos h1, if_pos h2])⟩)
            · have h2 : ¬ 0 ≤ FP.cmpInt 1 (FP.dcmp (σ.2.2 34 a) 0) := by rw [← cvG]; exact h2
              refine mGo_run (n := 400) ok rfl ?_
              refine mGo_side ok rfl (nI_in (by omega) (by omega)) ?_
              rw [nI_clamp (by omega)]
              refine mGo_run (n := 400) ok rfl ?_
              exact mGo_ret ok rfl trivial (⟨rfl, rfl, mark 2 (by rw [key, if_pos h1, if_neg h2])⟩)
          · have h1 : ¬ FP.cmpInt (-1) (FP.dcmp (σ.2.2 34 a) 0) ≤ 0 := by rw [← cvL]; exact h1
            refine mGo_run (n := 400) ok rfl ?_
            refine mGo_side ok rfl (nI_in (by omega) (by omega)) ?_
            rw [nI_clamp (by omega)]
            refine mGo_run (n := 400) ok rfl ?_
            exact mGo_ret ok rfl trivial (⟨rfl, rfl, mark 1 (by rw [key, if_neg h1])⟩)
        · have hop : ¬ op = 0 := hop
          refine mGo_run (n := 400) ok rfl ?_
          rw [hty]
          refine mGo_ifI ok rfl (nI_eq (a := t) (b := 2) (by omega) (by omega)) (fun h2 => ?_) (fun h2 => ?_)
          · obtain ⟨zx, hz1, hz2⟩ := x3 h2
            have hd : FP.d2f (σ.2.2 34 a) = zx := by rw [hz2]; exact d2f_f2d' hz1
            have f1 : FP.Core.FFin (FP.d2f (σ.2.2 34 a)) := by rw [hd]; exact hz1
            have f2 := fdv_fin f1 hop
            refine mGo_run (n := 400) ok rfl ?_
            refine mGo_side ok rfl (n32_fin f1) ?_
            refine mGo_run (n := 400) ok rfl ?_
            refine mGo_side ok rfl (n32_fin f2) ?_
            refine mGo_side ok rfl (n64_fin (f2d_z f2).1) ?_
            refine mGo_side ok rfl (nI_in (by omega) (by omega)) ?_
            rw [nI_clamp (by omega)]
            refine mGo_run (n := 400) ok rfl ?_
            exact mGo_ret ok rfl trivial (⟨rfl, rfl, numb _ (by unfold dvE; rw [if_neg h3, if_pos h0, if_neg hop, if_pos h2])⟩)
          · have f2 := ddv_fin x1 hop
            refine mGo_run (n := 400) ok rfl ?_
            refine mGo_side ok rfl (n64_fin f2) ?_
            refine mGo_side ok rfl (nI_in (by omega) (by omega)) ?_
            rw [nI_clamp (by omega)]
            refine mGo_run (n := 400) ok rfl ?_
            exact mGo_ret ok rfl trivial (⟨rfl, rfl, numb _ (by unfold dvE; rw [if_neg h3, if_pos h0, if_neg hop, if_neg h2])⟩)
      · have h0 : ¬ σ.1 35 a = 0 := h0
        refine mGo_run (n := 400) ok rfl ?_
        refine mGo_if ok rfl (fun hop => ?_) (fun hop => ?_)
        · have hop : 0 ≤ op := hop
          refine mGo_run (n := 400) ok rfl ?_
          exact mGo_ret ok rfl trivial (⟨rfl, rfl, same rfl (by unfold dvE; rw [if_neg h3, if_neg h0, if_neg (Int32.not_lt.mpr hop)])⟩)
        · have hop : ¬ 0 ≤ op := hop
          refine mGo_run (n := 400) ok rfl ?_
          refine mGo_side ok rfl (nI_in (by omega) (by omega)) ?_
          rw [nI_clamp (by omega)]
          refine mGo_run (n := 400) ok rfl ?_
          refine mGo_if ok rfl (fun h1 => ?_) (fun h1 => ?_)
          · have h1 : σ.1 35 a = 1 := h1
            refine mGo_run (n := 400) ok rfl ?_
            refine mGo_side ok rfl (nI_in (by omega) (by omega)) ?_
            rw [nI_clamp (by omega)]
            refine mGo_run (n := 400) ok rfl ?_
            exact mGo_ret ok rfl trivial (⟨rfl, rfl, mark 2 (by unfold dvE; rw [if_neg h3, if_neg h0, if_pos (Int32.not_le.mp hop), if_pos h1])⟩)
          · have h1 : ¬ σ.1 35 a = 1 := h1
            refine mGo_run (n := 400) ok rfl ?_
            refine mGo_side ok rfl (nI_in (by omega) (by omega)) ?_
            rw [nI_clamp (by omega)]
            refine mGo_run (n := 400) ok rfl ?_
            exact mGo_ret ok rfl trivial (⟨rfl, rfl, mark 1 (by unfold dvE; rw [if_neg h3, if_neg h0, if_pos (Int32.not_le.mp hop), if_neg h1])⟩)
theorem c_keepRemainder32 {n a t : Nat} (hn : n ≤ 40) (hl : σ.1 32 4 = nI n) (ha : a < n) (ht : t = 2 ∨ t = 3) (hty : σ.1 32 3 = nI t) (op : Int32) (hx : xE t (σ.1 35 a) (σ.2.2 34 a)) : mNV g l (d + 1) 56 [.ref 32, .int (nI a), .int op] lk ex σ (fun σ1 => fr 34 36 σ σ1 ∧ (∀ j, σ1.2.2 34 j = if j = a then (rmE t (σ.1 35 a) (σ.2.2 34 a) op).2 else σ.2.2 34 j) ∧ ∀ j, σ1.1 35 j = if j = a then (rmE t (σ.1 35 a) (σ.2.2 34 a) op).1 else σ.1 35 j) := by
  have ok : mOkP md_X5_keepRemainder := ok_at 56 (by decide) rfl
  refine mC_of (md := md_X5_keepRemainder) rfl (lt_at (by decide)) rfl ?_
  have mark : rmE t (σ.1 35 a) (σ.2.2 34 a) op = (3, σ.2.2 34 a) → fr 34 36 σ (mWI σ 35 a 3) ∧ (∀ j, (mWI σ 35 a 3).2.2 34 j = if j = a then (rmE t (σ.1 35 a) (σ.2.2 34 a) op).2 else σ.2.2 34 j) ∧ ∀ j, (mWI σ 35 a 3).1 35 j = if j = a then (rmE t (σ.1 35 a) (σ.2.2 34 a) op).1 else σ.1 35 j := by
    intro e2
    rw [e2]
    refine ⟨fr.refl.WI (by omega) (by omega), fun j => ?_, fun j => ?_⟩
    · show σ.2.2 34 j = _
      by_cases z : j = a
      · rw [if_pos z, z]
      · rw [if_neg z]
    · rw [WI_at]
      by_cases z : j = a
      · rw [if_pos ⟨rfl, z⟩, if_pos z]
      · rw [if_neg (fun y => z y.2), if_neg z]
  have numb : ∀ x : UInt64, rmE t (σ.1 35 a) (σ.2.2 34 a) op = (σ.1 35 a, x) → fr 34 36 σ (mWD σ 34 a x) ∧ (∀ j, (mWD σ 34 a x).2.2 34 j = if j = a then (rmE t (σ.1 35 a) (σ.2.2 34 a) op).2 else σ.2.2 34 j) ∧ ∀ j, (mWD σ 34 a x).1 35 j = if j = a then (rmE t (σ.1 35 a) (σ.2.2 34 a) op).1 else σ.1 35 j := by
    intro x e2
    rw [e2]
    refine ⟨fr.refl.WD (by omega) (by omega), fun j => ?_, fun j => ?_⟩
    · rw [WD_at]
      by_cases z : j = a
      · rw [if_pos ⟨rfl, z⟩, if_pos z]
      · rw [if_neg (fun y => z y.2), if_neg z]
    · show σ.1 35 j = _
      by_cases z : j = a
      · rw [if_pos z, z]
      · rw [if_neg z]
  refine mGo_run (n := 400) ok rfl ?_
  refine mGo_callP ok rfl (by omega) (c_covers32 (d := d) hl (nI a) 1) ?_
  rw [cov1 hn ha]
  refine mGo_if ok rfl (fun h => ?_) (fun h => ?_)
  · exact absurd h (by decide)
  · clear h
    refine mGo_run (n := 400) ok rfl ?_
    refine mGo_side ok rfl (nI_in (by omega) (by omega)) ?_
    rw [nI_clamp (by omega)]
    refine mGo_if ok rfl (fun h0 => ?_) (fun h0 => ?_)
    · have h0 : σ.1 35 a = 0 := h0
      obtain ⟨x1, x2, x3⟩ := hx h0
      refine mGo_run (n := 400) ok rfl ?_
      refine mGo_if ok rfl (fun hop => ?_) (fun hop => ?_)
      · refine mGo_run (n := 400) ok rfl ?_
        refine mGo_side ok rfl (nI_in (by omega) (by omega)) ?_
        rw [nI_clamp (by omega)]
        refine mGo_run (n := 400) ok rfl ?_
        exact mGo_ret ok rfl trivial (⟨rfl, rfl, mark (by unfold rmE; rw [if_pos (Or.inr hop)])⟩)
      · have hop : ¬ op = 0 := hop
        have hne : ¬ (σ.1 35 a ≠ 0 ∨ op = 0) := fun z => z.elim (fun y => y h0) hop
        refine mGo_run (n := 400) ok rfl ?_
        rw [hty]
        refine mGo_ifI ok rfl (nI_eq (a := t) (b := 2) (by omega) (by omega)) (fun h2 => ?_) (fun h2 => ?_)
        · obtain ⟨c, q, D, hw, hu, hD31, hD1, hc0, hfl⟩ := val_i2f op
          refine mGo_run (n := 400) ok rfl ?_
          refine mGo_side ok rfl (nI_in (by omega) (by omega)) ?_
          rw [nI_clamp (by omega)]
          refine mGo_run (n := 400) ok rfl ?_
          refine mGo_callP ok rfl (by omega) (c_remainderOf (d := d) x1 x2 (hD1 hop) hD31 hfl) ?_
          refine mGo_side ok rfl (nI_in (by omega) (by omega)) ?_
          rw [nI_clamp (by omega)]
          refine mGo_run (n := 400) ok rfl ?_
          exact mGo_ret ok rfl trivial (⟨rfl, rfl, numb _ (by unfold rmE; rw [if_neg hne, if_pos h2])⟩)
        · refine mGo_run (n := 400) ok rfl ?_
          refine mGo_side ok rfl (nI_in (by omega) (by omega)) ?_
          rw [nI_clamp (by omega)]
          refine mGo_run (n := 400) ok rfl ?_
          refine mGo_callP ok rfl (by omega) (c_remainderOf (d := d) x1 x2 (op_pos hop) (FP.Core.int32_abs op) (dv := op.toInt64) (by rw [Int32.toInt_toInt64])) ?_
          refine mGo_side ok rfl (nI_in (by omega) (by omega)) ?_
          rw [nI_clamp (by omega)]
          refine mGo_run (n := 400) ok rfl ?_
          exact mGo_ret ok rfl trivial (⟨rfl, rfl, numb _ (by unfold rmE; rw [if_neg hne, if_neg h2])⟩)
    · refine mGo_run (n := 400) ok rfl ?_
      refine mGo_side ok rfl (nI_in (by omega) (by omega)) ?_
      rw [nI_clamp (by omega)]
      refine mGo_run (n := 400) ok rfl ?_
      exact mGo_ret ok rfl trivial (⟨rfl, rfl, mark (by unfold rmE; rw [if_pos (Or.inl h0)])⟩)
theorem c_write36 {n a t : Nat} (hn : n ≤ 40) (hl : σ.1 36 4 = nI n) (ha : a < n) (ht : t < 4) (hty : σ.1 36 3 = nI t) (v : Int64) : mNV g l (d + 1) 53 [.ref 36, .int (nI a), .long v] lk ex σ (fun σ1 => fr 37 40 σ σ1 ∧ (∀ j, σ1.2.1 37 j = if j = a then wrW t v (σ.2.1 37 j) else σ.2.1 37 j) ∧ (∀ j, σ1.2.2 38 j = if j = a then wrX t v (σ.2.2 38 j) else σ.2.2 38 j) ∧ ∀ j, σ1.1 39 j = if j = a then 0 else σ.1 39 j) := by
  have ok : mOkP md_X5_write := ok_at 53 (by decide) rfl
  refine mC_of (md := md_X5_write) rfl (lt_at (by decide)) rfl ?_
  refine mGo_run (n := 400) ok rfl ?_
  refine mGo_callP ok rfl (by omega) (c_covers36 (d := d) hl (nI a) 1) ?_
  rw [cov1 hn ha]
  refine mGo_if ok rfl (fun h => ?_) (fun h => ?_)
  · exact absurd h (by decide)
  · clear h
    refine mGo_run (n := 400) ok rfl ?_
    refine mGo_side ok rfl (nI_in (by omega) (by omega)) ?_
    rw [nI_clamp (by omega)]
    refine mGo_run (n := 400) ok rfl ?_
    rw [show (mWI σ 39 a 0).1 36 3 = nI t by rw [WI_at, if_neg (by omega)]; exact hty]
    have m0 : ∀ j, (mWI σ 39 a 0).1 39 j = if j = a then 0 else σ.1 39 j := by
      intro j
      rw [WI_at]
      by_cases z : j = a
      · rw [if_pos ⟨rfl, z⟩, if_pos z]
      · rw [if_neg (fun y => z y.2), if_neg z]
    refine mGo_sw ok rfl ⟨fun h1 => ?_, fun h1 => ⟨fun h2 => ?_, fun h2 => ⟨fun h3 => ?_, fun h3 => ?_⟩⟩⟩
    · have e : t = 0 := (nI_eq (a := t) (b := 0) (by omega) (by omega)).mp h1
      subst e
      refine mGo_run (n := 400) ok rfl ?_
      refine mGo_side ok rfl (nI_in (by omega) (by omega)) ?_
      rw [nI_clamp (by omega)]
      refine mGo_run (n := 400) ok rfl ?_
      refine mGo_ret ok rfl trivial ⟨rfl, rfl, (fr.refl.WI (by omega) (by omega)).WL (by omega) (by omega), fun j => ?_, fun j => ?_, m0⟩
      · rw [WL_at]
        by_cases z : j = a
        · rw [if_pos ⟨rfl, z⟩, if_pos z]; rfl
        · rw [if_neg (fun y => z y.2), if_neg z]; rfl
      · show σ.2.2 38 j = _
        split <;> rfl
    · have e : t = 1 := (nI_eq (a := t) (b := 1) (by omega) (by omega)).mp h2
      subst e
      refine mGo_run (n := 400) ok rfl ?_
      refine mGo_side ok rfl (nI_in (by omega) (by omega)) ?_
      rw [nI_clamp (by omega)]
      refine mGo_run (n := 400) ok rfl ?_
      refine mGo_ret ok rfl trivial ⟨rfl, rfl, (fr.refl.WI (by omega) (by omega)).WL (by omega) (by omega), fun j => ?_, fun j => ?_, m0⟩
      · rw [WL_at]
        by_cases z : j = a
        · rw [if_pos ⟨rfl, z⟩, if_pos z]; rfl
        · rw [if_neg (fun y => z y.2), if_neg z]; rfl
      · show σ.2.2 38 j = _
        split <;> rfl
    · have e : t = 2 := (nI_eq (a := t) (b := 2) (by omega) (by omega)).mp h3
      subst e
      refine mGo_run (n := 400) ok rfl ?_
      refine mGo_side ok rfl (n64_fin (l2f_ok v).2.1) ?_
      refine mGo_side ok rfl (nI_in (by omega) (by omega)) ?_
      rw [nI_clamp (by omega)]
      refine mGo_run (n := 400) ok rfl ?_
      refine mGo_ret ok rfl trivial ⟨rfl, rfl, (fr.refl.WI (by omega) (by omega)).WD (by omega) (by omega), fun j => ?_, fun j => ?_, m0⟩
      · show σ.2.1 37 j = _
        split <;> rfl
      · rw [WD_at]
        by_cases z : j = a
        · rw [if_pos ⟨rfl, z⟩, if_pos z]; rfl
        · rw [if_neg (fun y => z y.2), if_neg z]; rfl
    · have e : t = 3 := by
        have n0 : t ≠ 0 := fun z => h1 (by rw [z]; rfl)
        have n1 : t ≠ 1 := fun z => h2 (by rw [z]; rfl)
        have n2 : t ≠ 2 := fun z => h3 (by rw [z]; rfl)
        omega
      subst e
      refine mGo_run (n := 400) ok rfl ?_
      refine mGo_side ok rfl (nI_in (by omega) (by omega)) ?_
      rw [nI_clamp (by omega)]
      refine mGo_run (n := 400) ok rfl ?_
      refine mGo_ret ok rfl trivial ⟨rfl, rfl, (fr.refl.WI (by omega) (by omega)).WD (by omega) (by omega), fun j => ?_, fun j => ?_, m0⟩
      · show σ.2.1 37 j = _
        split <;> rfl
      · rw [WD_at]
        by_cases z : j = a
        · rw [if_pos ⟨rfl, z⟩, if_pos z]; rfl
        · rw [if_neg (fun y => z y.2), if_neg z]; rfl
theorem c_divide36 {n a t : Nat} (hn : n ≤ 40) (hl : σ.1 36 4 = nI n) (ha : a < n) (ht : t = 2 ∨ t = 3) (hty : σ.1 36 3 = nI t) (op : Int32) (hx : xE t (σ.1 39 a) (σ.2.2 38 a)) : mNV g l (d + 1) 55 [.ref 36, .int (nI a), .int op] lk ex σ (fun σ1 => fr 38 40 σ σ1 ∧ (∀ j, σ1.2.2 38 j = if j = a then (dvE t (σ.1 39 a) (σ.2.2 38 a) op).2 else σ.2.2 38 j) ∧ ∀ j, σ1.1 39 j = if j = a then (dvE t (σ.1 39 a) (σ.2.2 38 a) op).1 else σ.1 39 j) := by
  have ok : mOkP md_X5_divide := ok_at 55 (by decide) rfl
  refine mC_of (md := md_X5_divide) rfl (lt_at (by decide)) rfl ?_
  have same : ∀ {τ : mHp}, τ = σ → dvE t (σ.1 39 a) (σ.2.2 38 a) op = (σ.1 39 a, σ.2.2 38 a) → fr 38 40 σ τ ∧ (∀ j, τ.2.2 38 j = if j = a then (dvE t (σ.1 39 a) (σ.2.2 38 a) op).2 else σ.2.2 38 j) ∧ ∀ j, τ.1 39 j = if j = a then (dvE t (σ.1 39 a) (σ.2.2 38 a) op).1 else σ.1 39 j := by
    intro τ e1 e2
    subst e1
    rw [e2]
    refine ⟨fr.refl, fun j => ?_, fun j => ?_⟩
    · by_cases z : j = a
      · rw [if_pos z, z]
      · rw [if_neg z]
    · by_cases z : j = a
      · rw [if_pos z, z]
      · rw [if_neg z]
  have mark : ∀ k : Int32, dvE t (σ.1 39 a) (σ.2.2 38 a) op = (k, σ.2.2 38 a) → fr 38 40 σ (mWI σ 39 a k) ∧ (∀ j, (mWI σ 39 a k).2.2 38 j = if j = a then (dvE t (σ.1 39 a) (σ.2.2 38 a) op).2 else σ.2.2 38 j) ∧ ∀ j, (mWI σ 39 a k).1 39 j = if j = a then (dvE t (σ.1 39 a) (σ.2.2 38 a) op).1 else σ.1 39 j := by
    intro k e2
    rw [e2]
    refine ⟨fr.refl.WI (by omega) (by omega), fun j => ?_, fun j => ?_⟩
    · show σ.2.2 38 j = _
      by_cases z : j = a
      · rw [if_pos z, z]
      · rw [if_neg z]
    · rw [WI_at]
      by_cases z : j = a
      · rw [if_pos ⟨rfl, z⟩, if_pos z]
      · rw [if_neg (fun y => z y.2), if_neg z]
  have numb : ∀ x : UInt64, dvE t (σ.1 39 a) (σ.2.2 38 a) op = (σ.1 39 a, x) → fr 38 40 σ (mWD σ 38 a x) ∧ (∀ j, (mWD σ 38 a x).2.2 38 j = if j = a then (dvE t (σ.1 39 a) (σ.2.2 38 a) op).2 else σ.2.2 38 j) ∧ ∀ j, (mWD σ 38 a x).1 39 j = if j = a then (dvE t (σ.1 39 a) (σ.2.2 38 a) op).1 else σ.1 39 j := by
    intro x e2
    rw [e2]
    refine ⟨fr.refl.WD (by omega) (by omega), fun j => ?_, fun j => ?_⟩
    · rw [WD_at]
      by_cases z : j = a
      · rw [if_pos ⟨rfl, z⟩, if_pos z]
      · rw [if_neg (fun y => z y.2), if_neg z]
    · show σ.1 39 j = _
      by_cases z : j = a
      · rw [if_pos z, z]
      · rw [if_neg z]
  refine mGo_run (n := 400) ok rfl ?_
  refine mGo_callP ok rfl (by omega) (c_covers36 (d := d) hl (nI a) 1) ?_
  rw [cov1 hn ha]
  refine mGo_if ok rfl (fun h => ?_) (fun h => ?_)
  · exact absurd h (by decide)
  · clear h
    refine mGo_run (n := 400) ok rfl ?_
    refine mGo_side ok rfl (nI_in (by omega) (by omega)) ?_
    rw [nI_clamp (by omega)]
    refine mGo_run (n := 400) ok rfl ?_
    refine mGo_if ok rfl (fun h3 => ?_) (fun h3 => ?_)
    · refine mGo_run (n := 400) ok rfl ?_
      have h3 : σ.1 39 a = 3 := h3
      exact mGo_ret ok rfl trivial (⟨rfl, rfl, same rfl (by unfold dvE; rw [if_pos h3])⟩)
    · have h3 : ¬ σ.1 39 a = 3 := h3
      refine mGo_run (n := 400) ok rfl ?_
      refine mGo_side ok rfl (nI_in (by omega) (by omega)) ?_
      rw [nI_clamp (by omega)]
      refine mGo_run (n := 400) ok rfl ?_
      refine mGo_side ok rfl (nI_in (by omega) (by omega)) ?_
      rw [nI_clamp (by omega)]
      refine mGo_if ok rfl (fun h0 => ?_) (fun h0 => ?_)
      · have h0 : σ.1 39 a = 0 := h0
        obtain ⟨x1, x2, x3⟩ := hx h0
        refine mGo_run (n := 400) ok rfl ?_
        refine mGo_if ok rfl (fun hop => ?_) (fun hop => ?_)
        · have hop : op = 0 := hop
          have key : dvE t (σ.1 39 a) (σ.2.2 38 a) op = ((if FP.cmpInt (-1) (FP.dcmp (σ.2.2 38 a) 0) ≤ 0 then (if 0 ≤ FP.cmpInt 1 (FP.dcmp (σ.2.2 38 a) 0) then 3 else 2) else 1), σ.2.2 38 a) := by
            unfold dvE; rw [if_neg h3, if_pos h0, if_pos hop]
          refine mGo_run (n := 400) ok rfl ?_
          refine mGo_if ok rfl (fun h1 => ?_) (fun h1 => ?_)
          · have h1 : FP.cmpInt (-1) (FP.dcmp (σ.2.2 38 a) 0) ≤ 0 := by rw [← cvL]; exact h1
            refine mGo_run (n := 400) ok rfl ?_
            refine mGo_if ok rfl (fun h2 => ?_) (fun h2 => ?_)
            · have h2 : 0 ≤ FP.cmpInt 1 (FP.dcmp (σ.2.2 38 a) 0) := by rw [← cvG]; exact h2
              refine mGo_run (n := 400) ok rfl ?_
              refine mGo_side ok rfl (nI_in (by omega) (by omega)) ?_
              rw [nI_clamp (by omega)]
              refine mGo_run (n := 400) ok rfl ?_
              exact mGo_ret ok rfl trivial (⟨rfl, rfl, mark 3 (by rw [key, if_pos h1, if_pos h2])⟩)
            · have h2 : ¬ 0 ≤ FP.cmpInt 1 (FP.dcmp (σ.2.2 38 a) 0) := by rw [← cvG]; exact h2
              refine mGo_run (n := 400) ok rfl ?_
              refine mGo_side ok rfl (nI_in (by omega) (by omega)) ?_
              rw [nI_clamp (by omega)]
              refine mGo_run (n := 400) ok rfl ?_
              exact mGo_ret ok rfl trivial (⟨rfl, rfl, mark 2 (by rw [key, if_pos h1, if_neg h2])⟩)
          · have h1 : ¬ FP.cmpInt (-1) (FP.dcmp (σ.2.2 38 a) 0) ≤ 0 := by rw [← cvL]; exact h1
            refine mGo_run (n := 400) ok rfl ?_
            refine mGo_side ok rfl (nI_in (by omega) (by omega)) ?_
            rw [nI_clamp (by omega)]
            refine mGo_run (n := 400) ok rfl ?_
            exact mGo_ret ok rfl trivial (⟨rfl, rfl, mark 1 (by rw [key, if_neg h1])⟩)
        · have hop : ¬ op = 0 := hop
          refine mGo_run (n := 400) ok rfl ?_
          rw [hty]
          refine mGo_ifI ok rfl (nI_eq (a := t) (b := 2) (by omega) (by omega)) (fun h2 => ?_) (fun h2 => ?_)
          · obtain ⟨zx, hz1, hz2⟩ := x3 h2
            have hd : FP.d2f (σ.2.2 38 a) = zx := by rw [hz2]; exact d2f_f2d' hz1
            have f1 : FP.Core.FFin (FP.d2f (σ.2.2 38 a)) := by rw [hd]; exact hz1
            have f2 := fdv_fin f1 hop
            refine mGo_run (n := 400) ok rfl ?_
            refine mGo_side ok rfl (n32_fin f1) ?_
            refine mGo_run (n := 400) ok rfl ?_
            refine mGo_side ok rfl (n32_fin f2) ?_
            refine mGo_side ok rfl (n64_fin (f2d_z f2).1) ?_
            refine mGo_side ok rfl (nI_in (by omega) (by omega)) ?_
            rw [nI_clamp (by omega)]
            refine mGo_run (n := 400) ok rfl ?_
            exact mGo_ret ok rfl trivial (⟨rfl, rfl, numb _ (by unfold dvE; rw [if_neg h3, if_pos h0, if_neg hop, if_pos h2])⟩)
          · have f2 := ddv_fin x1 hop
            refine mGo_run (n := 400) ok rfl ?_
            refine mGo_side ok rfl (n64_fin f2) ?_
            refine mGo_side ok rfl (nI_in (by omega) (by omega)) ?_
            rw [nI_clamp (by omega)]
            refine mGo_run (n := 400) ok rfl ?_
            exact mGo_ret ok rfl trivial (⟨rfl, rfl, numb _ (by unfold dvE; rw [if_neg h3, if_pos h0, if_neg hop, if_neg h2])⟩)
      · have h0 : ¬ σ.1 39 a = 0 := h0
        refine mGo_run (n := 400) ok rfl ?_
        refine mGo_if ok rfl (fun hop => ?_) (fun hop => ?_)
        · have hop : 0 ≤ op := hop
          refine mGo_run (n := 400) ok rfl ?_
          exact mGo_ret ok rfl trivial (⟨rfl, rfl, same rfl (by unfold dvE; rw [if_neg h3, if_neg h0, if_neg (Int32.not_lt.mpr hop)])⟩)
        · have hop : ¬ 0 ≤ op := hop
          refine mGo_run (n := 400) ok rfl ?_
          refine mGo_side ok rfl (nI_in (by omega) (by omega)) ?_
          rw [nI_clamp (by omega)]
          refine mGo_run (n := 400) ok rfl ?_
          refine mGo_if ok rfl (fun h1 => ?_) (fun h1 => ?_)
          · have h1 : σ.1 39 a = 1 := h1
            refine mGo_run (n := 400) ok rfl ?_
            refine mGo_side ok rfl (nI_in (by omega) (by omega)) ?_
            rw [nI_clamp (by omega)]
            refine mGo_run (n := 400) ok rfl ?_
            exact mGo_ret ok rfl trivial (⟨rfl, rfl, mark 2 (by unfold dvE; rw [if_neg h3, if_neg h0, if_pos (Int32.not_le.mp hop), if_pos h1])⟩)
          · have h1 : ¬ σ.1 39 a = 1 := h1
            refine mGo_run (n := 400) ok rfl ?_
            refine mGo_side ok rfl (nI_in (by omega) (by omega)) ?_
            rw [nI_clamp (by omega)]
            refine mGo_run (n := 400) ok rfl ?_
            exact mGo_ret ok rfl trivial (⟨rfl, rfl, mark 1 (by unfold dvE; rw [if_neg h3, if_neg h0, if_pos (Int32.not_le.mp hop), if_neg h1])⟩)
theorem c_keepRemainder36 {n a t : Nat} (hn : n ≤ 40) (hl : σ.1 36 4 = nI n) (ha : a < n) (ht : t = 2 ∨ t = 3) (hty : σ.1 36 3 = nI t) (op : Int32) (hx : xE t (σ.1 39 a) (σ.2.2 38 a)) : mNV g l (d + 1) 56 [.ref 36, .int (nI a), .int op] lk ex σ (fun σ1 => fr 38 40 σ σ1 ∧ (∀ j, σ1.2.2 38 j = if j = a then (rmE t (σ.1 39 a) (σ.2.2 38 a) op).2 else σ.2.2 38 j) ∧ ∀ j, σ1.1 39 j = if j = a then (rmE t (σ.1 39 a) (σ.2.2 38 a) op).1 else σ.1 39 j) := by
  have ok : mOkP md_X5_keepRemainder := ok_at 56 (by decide) rfl
  refine mC_of (md := md_X5_keepRemainder) rfl (lt_at (by decide)) rfl ?_
  have mark : rmE t (σ.1 39 a) (σ.2.2 38 a) op = (3, σ.2.2 38 a) → fr 38 40 σ (mWI σ 39 a 3) ∧ (∀ j, (mWI σ 39 a 3).2.2 38 j = if j = a then (rmE t (σ.1 39 a) (σ.2.2 38 a) op).2 else σ.2.2 38 j) ∧ ∀ j, (mWI σ 39 a 3).1 39 j = if j = a then (rmE t (σ.1 39 a) (σ.2.2 38 a) op).1 else σ.1 39 j := by
    intro e2
    rw [e2]
    refine ⟨fr.refl.WI (by omega) (by omega), fun j => ?_, fun j => ?_⟩
    · show σ.2.2 38 j = _
      by_cases z : j = a
      · rw [if_pos z, z]
      · rw [if_neg z]
    · rw [WI_at]
      by_cases z : j = a
      · rw [if_pos ⟨rfl, z⟩, if_pos z]
      · rw [if_neg (fun y => z y.2), if_neg z]
  have numb : ∀ x : UInt64, rmE t (σ.1 39 a) (σ.2.2 38 a) op = (σ.1 39 a, x) → fr 38 40 σ (mWD σ 38 a x) ∧ (∀ j, (mWD σ 38 a x).2.2 38 j = if j = a then (rmE t (σ.1 39 a) (σ.2.2 38 a) op).2 else σ.2.2 38 j) ∧ ∀ j, (mWD σ 38 a x).1 39 j = if j = a then (rmE t (σ.1 39 a) (σ.2.2 38 a) op).1 else σ.1 39 j := by
    intro x e2
    rw [e2]
    refine ⟨fr.refl.WD (by omega) (by omega), fun j => ?_, fun j => ?_⟩
    · rw [WD_at]
      by_cases z : j = a
      · rw [if_pos ⟨rfl, z⟩, if_pos z]
      · rw [if_neg (fun y => z y.2), if_neg z]
    · show σ.1 39 j = _
      by_cases z : j = a
      · rw [if_pos z, z]
      · rw [if_neg z]
  refine mGo_run (n := 400) ok rfl ?_
  refine mGo_callP ok rfl (by omega) (c_covers36 (d := d) hl (nI a) 1) ?_
  rw [cov1 hn ha]
  refine mGo_if ok rfl (fun h => ?_) (fun h => ?_)
  · exact absurd h (by decide)
  · clear h
    refine mGo_run (n := 400) ok rfl ?_
    refine mGo_side ok rfl (nI_in (by omega) (by omega)) ?_
    rw [nI_clamp (by omega)]
    refine mGo_if ok rfl (fun h0 => ?_) (fun h0 => ?_)
    · have h0 : σ.1 39 a = 0 := h0
      obtain ⟨x1, x2, x3⟩ := hx h0
      refine mGo_run (n := 400) ok rfl ?_
      refine mGo_if ok rfl (fun hop => ?_) (fun hop => ?_)
      · refine mGo_run (n := 400) ok rfl ?_
        refine mGo_side ok rfl (nI_in (by omega) (by omega)) ?_
        rw [nI_clamp (by omega)]
        refine mGo_run (n := 400) ok rfl ?_
        exact mGo_ret ok rfl trivial (⟨rfl, rfl, mark (by unfold rmE; rw [if_pos (Or.inr hop)])⟩)
      · have hop : ¬ op = 0 := hop
        have hne : ¬ (σ.1 39 a ≠ 0 ∨ op = 0) := fun z => z.elim (fun y => y h0) hop
        refine mGo_run (n := 400) ok rfl ?_
        rw [hty]
        refine mGo_ifI ok rfl (nI_eq (a := t) (b := 2) (by omega) (by omega)) (fun h2 => ?_) (fun h2 => ?_)
        · obtain ⟨c, q, D, hw, hu, hD31, hD1, hc0, hfl⟩ := val_i2f op
          refine mGo_run (n := 400) ok rfl ?_
          refine mGo_side ok rfl (nI_in (by omega) (by omega)) ?_
          rw [nI_clamp (by omega)]
          refine mGo_run (n := 400) ok rfl ?_
          refine mGo_callP ok rfl (by omega) (c_remainderOf (d := d) x1 x2 (hD1 hop) hD31 hfl) ?_
          refine mGo_side ok rfl (nI_in (by omega) (by omega)) ?_
          rw [nI_clamp (by omega)]
          refine mGo_run (n := 400) ok rfl ?_
          exact mGo_ret ok rfl trivial (⟨rfl, rfl, numb _ (by unfold rmE; rw [if_neg hne, if_pos h2])⟩)
        · refine mGo_run (n := 400) ok rfl ?_
          refine mGo_side ok rfl (nI_in (by omega) (by omega)) ?_
          rw [nI_clamp (by omega)]
          refine mGo_run (n := 400) ok rfl ?_
          refine mGo_callP ok rfl (by omega) (c_remainderOf (d := d) x1 x2 (op_pos hop) (FP.Core.int32_abs op) (dv := op.toInt64) (by rw [Int32.toInt_toInt64])) ?_
          refine mGo_side ok rfl (nI_in (by omega) (by omega)) ?_
          rw [nI_clamp (by omega)]
          refine mGo_run (n := 400) ok rfl ?_
          exact mGo_ret ok rfl trivial (⟨rfl, rfl, numb _ (by unfold rmE; rw [if_neg hne, if_neg h2])⟩)
    · refine mGo_run (n := 400) ok rfl ?_
      refine mGo_side ok rfl (nI_in (by omega) (by omega)) ?_
      rw [nI_clamp (by omega)]
      refine mGo_run (n := 400) ok rfl ?_
      exact mGo_ret ok rfl trivial (⟨rfl, rfl, mark (by unfold rmE; rw [if_pos (Or.inl h0)])⟩)
theorem c_write40 {n a t : Nat} (hn : n ≤ 40) (hl : σ.1 40 4 = nI n) (ha : a < n) (ht : t < 4) (hty : σ.1 40 3 = nI t) (v : Int64) : mNV g l (d + 1) 53 [.ref 40, .int (nI a), .long v] lk ex σ (fun σ1 => fr 41 44 σ σ1 ∧ (∀ j, σ1.2.1 41 j = if j = a then wrW t v (σ.2.1 41 j) else σ.2.1 41 j) ∧ (∀ j, σ1.2.2 42 j = if j = a then wrX t v (σ.2.2 42 j) else σ.2.2 42 j) ∧ ∀ j, σ1.1 43 j = if j = a then 0 else σ.1 43 j) := by
  have ok : mOkP md_X5_write := ok_at 53 (by decide) rfl
  refine mC_of (md := md_X5_write) rfl (lt_at (by decide)) rfl ?_
  refine mGo_run (n := 400) ok rfl ?_
  refine mGo_callP ok rfl (by omega) (c_covers40 (d := d) hl (nI a) 1) ?_
  rw [cov1 hn ha]
  refine mGo_if ok rfl (fun h => ?_) (fun h => ?_)
  · exact absurd h (by decide)
  · clear h
    refine mGo_run (n := 400) ok rfl ?_
    refine mGo_side ok rfl (nI_in (by omega) (by omega)) ?_
    rw [nI_clamp (by omega)]
    refine mGo_run (n := 400) ok rfl ?_
    rw [show (mWI σ 43 a 0).1 40 3 = nI t by rw [WI_at, if_neg (by omega)]; exact hty]
    have m0 : ∀ j, (mWI σ 43 a 0).1 43 j = if j = a then 0 else σ.1 43 j := by
      intro j
      rw [WI_at]
      by_cases z : j = a
      · rw [if_pos ⟨rfl, z⟩, if_pos z]
      · rw [if_neg (fun y => z y.2), if_neg z]
    refine mGo_sw ok rfl ⟨fun h1 => ?_, fun h1 => ⟨fun h2 => ?_, fun h2 => ⟨fun h3 => ?_, fun h3 => ?_⟩⟩⟩
    · have e : t = 0 := (nI_eq (a := t) (b := 0) (by omega) (by omega)).mp h1
      subst e
      refine mGo_run (n := 400) ok rfl ?_
      refine mGo_side ok rfl (nI_in (by omega) (by omega)) ?_
      rw [nI_clamp (by omega)]
      refine mGo_run (n := 400) ok rfl ?_
      refine mGo_ret ok rfl trivial ⟨rfl, rfl, (fr.refl.WI (by omega) (by omega)).WL (by omega) (by omega), fun j => ?_, fun j => ?_, m0⟩
      · rw [WL_at]
        by_cases z : j = a
        · rw [if_pos ⟨rfl, z⟩, if_pos z]; rfl
        · rw [if_neg (fun y => z y.2), if_neg z]; rfl
      · show σ.2.2 42 j = _
        split <;> rfl
    · have e : t = 1 := (nI_eq (a := t) (b := 1) (by omega) (by omega)).mp h2
      subst e
      refine mGo_run (n := 400) ok rfl ?_
      refine mGo_side ok rfl (nI_in (by omega) (by omega)) ?_
      rw [nI_clamp (by omega)]
      refine mGo_run (n := 400) ok rfl ?_
      refine mGo_ret ok rfl trivial ⟨rfl, rfl, (fr.refl.WI (by omega) (by omega)).WL (by omega) (by omega), fun j => ?_, fun j => ?_, m0⟩
      · rw [WL_at]
        by_cases z : j = a
        · rw [if_pos ⟨rfl, z⟩, if_pos z]; rfl
        · rw [if_neg (fun y => z y.2), if_neg z]; rfl
      · show σ.2.2 42 j = _
        split <;> rfl
    · have e : t = 2 := (nI_eq (a := t) (b := 2) (by omega) (by omega)).mp h3
      subst e
      refine mGo_run (n := 400) ok rfl ?_
      refine mGo_side ok rfl (n64_fin (l2f_ok v).2.1) ?_
      refine mGo_side ok rfl (nI_in (by omega) (by omega)) ?_
      rw [nI_clamp (by omega)]
      refine mGo_run (n := 400) ok rfl ?_
      refine mGo_ret ok rfl trivial ⟨rfl, rfl, (fr.refl.WI (by omega) (by omega)).WD (by omega) (by omega), fun j => ?_, fun j => ?_, m0⟩
      · show σ.2.1 41 j = _
        split <;> rfl
      · rw [WD_at]
        by_cases z : j = a
        · rw [if_pos ⟨rfl, z⟩, if_pos z]; rfl
        · rw [if_neg (fun y => z y.2), if_neg z]; rfl
    · have e : t = 3 := by
        have n0 : t ≠ 0 := fun z => h1 (by rw [z]; rfl)
        have n1 : t ≠ 1 := fun z => h2 (by rw [z]; rfl)
        have n2 : t ≠ 2 := fun z => h3 (by rw [z]; rfl)
        omega
      subst e
      refine mGo_run (n := 400) ok rfl ?_
      refine mGo_side ok rfl (nI_in (by omega) (by omega)) ?_
      rw [nI_clamp (by omega)]
      refine mGo_run (n := 400) ok rfl ?_
      refine mGo_ret ok rfl trivial ⟨rfl, rfl, (fr.refl.WI (by omega) (by omega)).WD (by omega) (by omega), fun j => ?_, fun j => ?_, m0⟩
      · show σ.2.1 41 j = _
        split <;> rfl
      · rw [WD_at]
        by_cases z : j = a
        · rw [if_pos ⟨rfl, z⟩, if_pos z]; rfl
        · rw [if_neg (fun y => z y.2), if_neg z]; rfl
theorem c_divide40 {n a t : Nat} (hn : n ≤ 40) (hl : σ.1 40 4 = nI n) (ha : a < n) (ht : t = 2 ∨ t = 3) (hty : σ.1 40 3 = nI t) (op : Int32) (hx : xE t (σ.1 43 a) (σ.2.2 42 a)) : mNV g l (d + 1) 55 [.ref 40, .int (nI a), .int op] lk ex σ (fun σ1 => fr 42 44 σ σ1 ∧ (∀ j, σ1.2.2 42 j = if j = a then (dvE t (σ.1 43 a) (σ.2.2 42 a) op).2 else σ.2.2 42 j) ∧ ∀ j, σ1.1 43 j = if j = a then (dvE t (σ.1 43 a) (σ.2.2 42 a) op).1 else σ.1 43 j) := by
  have ok : mOkP md_X5_divide := ok_at 55 (by decide) rfl
  refine mC_of (md := md_X5_divide) rfl (lt_at (by decide)) rfl ?_
  have same : ∀ {τ : mHp}, τ = σ → dvE t (σ.1 43 a) (σ.2.2 42 a) op = (σ.1 43 a, σ.2.2 42 a) → fr 42 44 σ τ ∧ (∀ j, τ.2.2 42 j = if j = a then (dvE t (σ.1 43 a) (σ.2.2 42 a) op).2 else σ.2.2 42 j) ∧ ∀ j, τ.1 43 j = if j = a then (dvE t (σ.1 43 a) (σ.2.2 42 a) op).1 else σ.1 43 j := by
    intro τ e1 e2
    subst e1
    rw [e2]
    refine ⟨fr.refl, fun j => ?_, fun j => ?_⟩
    · by_cases z : j = a
      · rw [if_pos z, z]
      · rw [if_neg z]
    · by_cases z : j = a
      · rw [if_pos z, z]
      · rw [if_neg z]
  have mark : ∀ k : Int32, dvE t (σ.1 43 a) (σ.2.2 42 a) op = (k, σ.2.2 42 a) → fr 42 44 σ (mWI σ 43 a k) ∧ (∀ j, (mWI σ 43 a k).2.2 42 j = if j = a then (dvE t (σ.1 43 a) (σ.2.2 42 a) op).2 else σ.2.2 42 j) ∧ ∀ j, (mWI σ 43 a k).1 43 j = if j = a then (dvE t (σ.1 43 a) (σ.2.2 42 a) op).1 else σ.1 43 j := by
    intro k e2
    rw [e2]
    refine ⟨fr.refl.WI (by omega) (by omega), fun j => ?_, fun j => ?_⟩
    · show σ.2.2 42 j = _
      by_cases z : j = a
      · rw [if_pos z, z]
      · rw [if_neg z]
    · rw [WI_at]
      by_cases z : j = a
      · rw [if_pos ⟨rfl, z⟩, if_pos z]
      · rw [if_neg (fun y => z y.2), if_neg z]
  have numb : ∀ x : UInt64, dvE t (σ.1 43 a) (σ.2.2 42 a) op = (σ.1 43 a, x) → fr 42 44 σ (mWD σ 42 a x) ∧ (∀ j, (mWD σ 42 a x).2.2 42 j = if j = a then (dvE t (σ.1 43 a) (σ.2.2 42 a) op).2 else σ.2.2 42 j) ∧ ∀ j, (mWD σ 42 a x).1 43 j = if j = a then (dvE t (σ.1 43 a) (σ.2.2 42 a) op).1 else σ.1 43 j := by
    intro x e2
    rw [e2]
    refine ⟨fr.refl.WD (by omega) (by omega), fun j => ?_, fun j => ?_⟩
    · rw [WD_at]
      by_cases z : j = a
      · rw [if_pos ⟨rfl, z⟩, if_pos z]
      · rw [if_neg (fun y => z y.2), if_neg z]
    · show σ.1 43 j = _
      by_cases z : j = a
      · rw [if_pos z, z]
      · rw [if_neg z]
  refine mGo_run (n := 400) ok rfl ?_
  refine mGo_callP ok rfl (by omega) (c_covers40 (d := d) hl (nI a) 1) ?_
  rw [cov1 hn ha]
  refine mGo_if ok rfl (fun h => ?_) (fun h => ?_)
  · exact absurd h (by decide)
  · clear h
    refine mGo_run (n := 400) ok rfl ?_
    refine mGo_side ok rfl (nI_in (by omega) (by omega)) ?_
    rw [nI_clamp (by omega)]
    refine mGo_run (n := 400) ok rfl ?_
    refine mGo_if ok rfl (fun h3 => ?_) (fun h3 => ?_)
    · refine mGo_run (n := 400) ok rfl ?_
      have h3 : σ.1 43 a = 3 := h3
      exact mGo_ret ok rfl trivial (⟨rfl, rfl, same rfl (by unfold dvE; rw [if_pos h3])⟩)
    · have h3 : ¬ σ.1 43 a = 3 := h3
      refine mGo_run (n := 400) ok rfl ?_
      refine mGo_side ok rfl (nI_in (by omega) (by omega)) ?_
      rw [nI_clamp (by omega)]
      refine mGo_run (n := 400) ok rfl ?_
      refine mGo_side ok rfl (nI_in (by omega) (by omega)) ?_
      rw [nI_clamp (by omega)]
      refine mGo_if ok rfl (fun h0 => ?_) (fun h0 => ?_)
      · have h0 : σ.1 43 a = 0 := h0
        obtain ⟨x1, x2, x3⟩ := hx h0
        refine mGo_run (n := 400) ok rfl ?_
        refine mGo_if ok rfl (fun hop => ?_) (fun hop => ?_)
        · have hop : op = 0 := hop
          have key : dvE t (σ.1 43 a) (σ.2.2 42 a) op = ((if FP.cmpInt (-1) (FP.dcmp (σ.2.2 42 a) 0) ≤ 0 then (if 0 ≤ FP.cmpInt 1 (FP.dcmp (σ.2.2 42 a) 0) then 3 else 2) else 1), σ.2.2 42 a) := by
            unfold dvE; rw [if_neg h3, if_pos h0, if_pos hop]
          refine mGo_run (n := 400) ok rfl ?_
          refine mGo_if ok rfl (fun h1 => ?_) (fun h1 => ?_)
          · have h1 : FP.cmpInt (-1) (FP.dcmp (σ.2.2 42 a) 0) ≤ 0 := by rw [← cvL]; exact h1
            refine mGo_run (n := 400) ok rfl ?_
            refine mGo_if ok rfl (fun h2 => ?_) (fun h2 => ?_)
            · have h2 : 0 ≤ FP.cmpInt 1 (FP.dcmp (σ.2.2 42 a) 0) := by rw [← cvG]; exact h2
              refine mGo_run (n := 400) ok rfl ?_
              refine mGo_side ok rfl (nI_in (by omega) (by omega)) ?_
              rw [nI_clamp (by omega)]
              refine mGo_run (n := 400) ok rfl ?_
              exact mGo_ret ok rfl trivial (⟨rfl, rfl, mark 3 (by rw [key, if_pos h1, if_pos h2])⟩)
            · have h2 : ¬ 0 ≤ FP.cmpInt 1 (FP.dcmp (σ.2.2 42 a) 0) := by rw [← cvG]; exact h2
              refine mGo_run (n := 400) ok rfl ?_
              refine mGo_side ok rfl (nI_in (by omega) (by omega)) ?_
              rw [nI_clamp (by omega)]
              refine mGo_run (n := 400) ok rfl ?_
              exact mGo_ret ok rfl trivial (⟨rfl, rfl, mark 2 (by rw [key, if_pos h1, if_neg h2])⟩)
          · have h1 : ¬ FP.cmpInt (-1) (FP.dcmp (σ.2.2 42 a) 0) ≤ 0 := by rw [← cvL]; exact h1
            refine mGo_run (n := 400) ok rfl ?_
            refine mGo_side ok rfl (nI_in (by omega) (by omega)) ?_
            rw [nI_clamp (by omega)]
            refine mGo_run (n := 400) ok rfl ?_
            exact mGo_ret ok rfl trivial (⟨rfl, rfl, mark 1 (by rw [key, if_neg h1])⟩)
        · have hop : ¬ op = 0 := hop
          refine mGo_run (n := 400) ok rfl ?_
          rw [hty]
          refine mGo_ifI ok rfl (nI_eq (a := t) (b := 2) (by omega) (by omega)) (fun h2 => ?_) (fun h2 => ?_)
          · obtain ⟨zx, hz1, hz2⟩ := x3 h2
            have hd : FP.d2f (σ.2.2 42 a) = zx := by rw [hz2]; exact d2f_f2d' hz1
            have f1 : FP.Core.FFin (FP.d2f (σ.2.2 42 a)) := by rw [hd]; exact hz1
            have f2 := fdv_fin f1 hop
            refine mGo_run (n := 400) ok rfl ?_
            refine mGo_side ok rfl (n32_fin f1) ?_
            refine mGo_run (n := 400) ok rfl ?_
            refine mGo_side ok rfl (n32_fin f2) ?_
            refine mGo_side ok rfl (n64_fin (f2d_z f2).1) ?_
            refine mGo_side ok rfl (nI_in (by omega) (by omega)) ?_
            rw [nI_clamp (by omega)]
            refine mGo_run (n := 400) ok rfl ?_
            exact mGo_ret ok rfl trivial (⟨rfl, rfl, numb _ (by unfold dvE; rw [if_neg h3, if_pos h0, if_neg hop, if_pos h2])⟩)
          · have f2 := ddv_fin x1 hop
            refine mGo_run (n := 400) ok rfl ?_
            refine mGo_side ok rfl (n64_fin f2) ?_
            refine mGo_side ok rfl (nI_in (by omega) (by omega)) ?_
            rw [nI_clamp (by omega)]
            refine mGo_run (n := 400) ok rfl ?_
            exact mGo_ret ok rfl trivial (⟨rfl, rfl, numb _ (by unfold dvE; rw [if_neg h3, if_pos h0, if_neg hop, if_neg h2])⟩)
      · have h0 : ¬ σ.1 43 a = 0 := h0
        refine mGo_run (n := 400) ok rfl ?_
        refine mGo_if ok rfl (fun hop => ?_) (fun hop => ?_)
        · have hop : 0 ≤ op := hop
          refine mGo_run (n := 400) ok rfl ?_
          exact mGo_ret ok rfl trivial (⟨rfl, rfl, same rfl (by unfold dvE; rw [if_neg h3, if_neg h0, if_neg (Int32.not_lt.mpr hop)])⟩)
        · have hop : ¬ 0 ≤ op := hop
          refine mGo_run (n := 400) ok rfl ?_
          refine mGo_side ok rfl (nI_in (by omega) (by omega)) ?_
          rw [nI_clamp (by omega)]
          refine mGo_run (n := 400) ok rfl ?_
          refine mGo_if ok rfl (fun h1 => ?_) (fun h1 => ?_)
          · have h1 : σ.1 43 a = 1 := h1
            refine mGo_run (n := 400) ok rfl ?_
            refine mGo_side ok rfl (nI_in (by omega) (by omega)) ?_
            rw [nI_clamp (by omega)]
            refine mGo_run (n := 400) ok rfl ?_
            exact mGo_ret ok rfl trivial (⟨rfl, rfl, mark 2 (by unfold dvE; rw [if_neg h3, if_neg h0, if_pos (Int32.not_le.mp hop), if_pos h1])⟩)
          · have h1 : ¬ σ.1 43 a = 1 := h1
            refine mGo_run (n := 400) ok rfl ?_
            refine mGo_side ok rfl (nI_in (by omega) (by omega)) ?_
            rw [nI_clamp (by omega)]
            refine mGo_run (n := 400) ok rfl ?_
            exact mGo_ret ok rfl trivial (⟨rfl, rfl, mark 1 (by unfold dvE; rw [if_neg h3, if_neg h0, if_pos (Int32.not_le.mp hop), if_neg h1])⟩)
theorem c_keepRemainder40 {n a t : Nat} (hn : n ≤ 40) (hl : σ.1 40 4 = nI n) (ha : a < n) (ht : t = 2 ∨ t = 3) (hty : σ.1 40 3 = nI t) (op : Int32) (hx : xE t (σ.1 43 a) (σ.2.2 42 a)) : mNV g l (d + 1) 56 [.ref 40, .int (nI a), .int op] lk ex σ (fun σ1 => fr 42 44 σ σ1 ∧ (∀ j, σ1.2.2 42 j = if j = a then (rmE t (σ.1 43 a) (σ.2.2 42 a) op).2 else σ.2.2 42 j) ∧ ∀ j, σ1.1 43 j = if j = a then (rmE t (σ.1 43 a) (σ.2.2 42 a) op).1 else σ.1 43 j) := by
  have ok : mOkP md_X5_keepRemainder := ok_at 56 (by decide) rfl
  refine mC_of (md := md_X5_keepRemainder) rfl (lt_at (by decide)) rfl ?_
  have mark : rmE t (σ.1 43 a) (σ.2.2 42 a) op = (3, σ.2.2 42 a) → fr 42 44 σ (mWI σ 43 a 3) ∧ (∀ j, (mWI σ 43 a 3).2.2 42 j = if j = a then (rmE t (σ.1 43 a) (σ.2.2 42 a) op).2 else σ.2.2 42 j) ∧ ∀ j, (mWI σ 43 a 3).1 43 j = if j = a then (rmE t (σ.1 43 a) (σ.2.2 42 a) op).1 else σ.1 43 j := by
    intro e2
    rw [e2]
    refine ⟨fr.refl.WI (by omega) (by omega), fun j => ?_, fun j => ?_⟩
    · show σ.2.2 42 j = _
      by_cases z : j = a
      · rw [if_pos z, z]
      · rw [if_neg z]
    · rw [WI_at]
      by_cases z : j = a
      · rw [if_pos ⟨rfl, z⟩, if_pos z]
      · rw [if_neg (fun y => z y.2), if_neg z]
  have numb : ∀ x : UInt64, rmE t (σ.1 43 a) (σ.2.2 42 a) op = (σ.1 43 a, x) → fr 42 44 σ (mWD σ 42 a x) ∧ (∀ j, (mWD σ 42 a x).2.2 42 j = if j = a then (rmE t (σ.1 43 a) (σ.2.2 42 a) op).2 else σ.2.2 42 j) ∧ ∀ j, (mWD σ 42 a x).1 43 j = if j = a then (rmE t (σ.1 43 a) (σ.2.2 42 a) op).1 else σ.1 43 j := by
    intro x e2
    rw [e2]
    refine ⟨fr.refl.WD (by omega) (by omega), fun j => ?_, fun j => ?_⟩
    · rw [WD_at]
      by_cases z : j = a
      · rw [if_pos ⟨rfl, z⟩, if_pos z]
      · rw [if_neg (fun y => z y.2), if_neg z]
    · show σ.1 43 j = _
      by_cases z : j = a
      · rw [if_pos z, z]
      · rw [if_neg z]
  refine mGo_run (n := 400) ok rfl ?_
  refine mGo_callP ok rfl (by omega) (c_covers40 (d := d) hl (nI a) 1) ?_
  rw [cov1 hn ha]
  refine mGo_if ok rfl (fun h => ?_) (fun h => ?_)
  · exact absurd h (by decide)
  · clear h
    refine mGo_run (n := 400) ok rfl ?_
    refine mGo_side ok rfl (nI_in (by omega) (by omega)) ?_
    rw [nI_clamp (by omega)]
    refine mGo_if ok rfl (fun h0 => ?_) (fun h0 => ?_)
    · have h0 : σ.1 43 a = 0 := h0
      obtain ⟨x1, x2, x3⟩ := hx h0
      refine mGo_run (n := 400) ok rfl ?_
      refine mGo_if ok rfl (fun hop => ?_) (fun hop => ?_)
      · refine mGo_run (n := 400) ok rfl ?_
        refine mGo_side ok rfl (nI_in (by omega) (by omega)) ?_
        rw [nI_clamp (by omega)]
        refine mGo_run (n := 400) ok rfl ?_
        exact mGo_ret ok rfl trivial (⟨rfl, rfl, mark (by unfold rmE; rw [if_pos (Or.inr hop)])⟩)
      · have hop : ¬ op = 0 := hop
        have hne : ¬ (σ.1 43 a ≠ 0 ∨ op = 0) := fun z => z.elim (fun y => y h0) hop
        refine mGo_run (n := 400) ok rfl ?_
        rw [hty]
        refine mGo_ifI ok rfl (nI_eq (a := t) (b := 2) (by omega) (by omega)) (fun h2 => ?_) (fun h2 => ?_)
        · obtain ⟨c, q, D, hw, hu, hD31, hD1, hc0, hfl⟩ := val_i2f op
          refine mGo_run (n := 400) ok rfl ?_
          refine mGo_side ok rfl (nI_in (by omega) (by omega)) ?_
          rw [nI_clamp (by omega)]
          refine mGo_run (n := 400) ok rfl ?_
          refine mGo_callP ok rfl (by omega) (c_remainderOf (d := d) x1 x2 (hD1 hop) hD31 hfl) ?_
          refine mGo_side ok rfl (nI_in (by omega) (by omega)) ?_
          rw [nI_clamp (by omega)]
          refine mGo_run (n := 400) ok rfl ?_
          exact mGo_ret ok rfl trivial (⟨rfl, rfl, numb _ (by unfold rmE; rw [if_neg hne, if_pos h2])⟩)
        · refine mGo_run (n := 400) ok rfl ?_
          refine mGo_side ok rfl (nI_in (by omega) (by omega)) ?_
          rw [nI_clamp (by omega)]
          refine mGo_run (n := 400) ok rfl ?_
          refine mGo_callP ok rfl (by omega) (c_remainderOf (d := d) x1 x2 (op_pos hop) (FP.Core.int32_abs op) (dv := op.toInt64) (by rw [Int32.toInt_toInt64])) ?_
          refine mGo_side ok rfl (nI_in (by omega) (by omega)) ?_
          rw [nI_clamp (by omega)]
          refine mGo_run (n := 400) ok rfl ?_
          exact mGo_ret ok rfl trivial (⟨rfl, rfl, numb _ (by unfold rmE; rw [if_neg hne, if_neg h2])⟩)
    · refine mGo_run (n := 400) ok rfl ?_
      refine mGo_side ok rfl (nI_in (by omega) (by omega)) ?_
      rw [nI_clamp (by omega)]
      refine mGo_run (n := 400) ok rfl ?_
      exact mGo_ret ok rfl trivial (⟨rfl, rfl, mark (by unfold rmE; rw [if_pos (Or.inl h0)])⟩)
theorem c_write44 {n a t : Nat} (hn : n ≤ 40) (hl : σ.1 44 4 = nI n) (ha : a < n) (ht : t < 4) (hty : σ.1 44 3 = nI t) (v : Int64) : mNV g l (d + 1) 53 [.ref 44, .int (nI a), .long v] lk ex σ (fun σ1 => fr 45 48 σ σ1 ∧ (∀ j, σ1.2.1 45 j = if j = a then wrW t v (σ.2.1 45 j) else σ.2.1 45 j) ∧ (∀ j, σ1.2.2 46 j = if j = a then wrX t v (σ.2.2 46 j) else σ.2.2 46 j) ∧ ∀ j, σ1.1 47 j = if j = a then 0 else σ.1 47 j) := by
  have ok : mOkP md_X5_write := ok_at 53 (by decide) rfl
  refine mC_of (md := md_X5_write) rfl (lt_at (by decide)) rfl ?_
  refine mGo_run (n := 400) ok rfl ?_
  refine mGo_callP ok rfl (by omega) (c_covers44 (d := d) hl (nI a) 1) ?_
  rw [cov1 hn ha]
  refine mGo_if ok rfl (fun h => ?_) (fun h => ?_)
  · exact absurd h (by decide)
  · clear h
    refine mGo_run (n := 400) ok rfl ?_
    refine mGo_side ok rfl (nI_in (by omega) (by omega)) ?_
    rw [nI_clamp (by omega)]
    refine mGo_run (n := 400) ok rfl ?_
    rw [show (mWI σ 47 a 0).1 44 3 = nI t by rw [WI_at, if_neg (by omega)]; exact hty]
    have m0 : ∀ j, (mWI σ 47 a 0).1 47 j = if j = a then 0 else σ.1 47 j := by
      intro j
      rw [WI_at]
      by_cases z : j = a
      · rw [if_pos ⟨rfl, z⟩, if_pos z]
      · rw [if_neg (fun y => z y.2), if_neg z]
    refine mGo_sw ok rfl ⟨fun h1 => ?_, fun h1 => ⟨fun h2 => ?_, fun h2 => ⟨fun h3 => ?_, fun h3 => ?_⟩⟩⟩
    · have e : t = 0 := (nI_eq (a := t) (b := 0) (by omega) (by omega)).mp h1
      subst e
      refine mGo_run (n := 400) ok rfl ?_
      refine mGo_side ok rfl (nI_in (by omega) (by omega)) ?_
      rw [nI_clamp (by omega)]
      refine mGo_run (n := 400) ok rfl ?_
      refine mGo_ret ok rfl trivial ⟨rfl, rfl, (fr.refl.WI (by omega) (by omega)).WL (by omega) (by omega), fun j => ?_, fun j => ?_, m0⟩
      · rw [WL_at]
        by_cases z : j = a
        · rw [if_pos ⟨rfl, z⟩, if_pos z]; rfl
        · rw [if_neg (fun y => z y.2), if_neg z]; rfl
      · show σ.2.2 46 j = _
        split <;> rfl
    · have e : t = 1 := (nI_eq (a := t) (b := 1) (by omega) (by omega)).mp h2
      subst e
      refine mGo_run (n := 400) ok rfl ?_
      refine mGo_side ok rfl (nI_in (by omega) (by omega)) ?_
      rw [nI_clamp (by omega)]
      refine mGo_run (n := 400) ok rfl ?_
      refine mGo_ret ok rfl trivial ⟨rfl, rfl, (fr.refl.WI (by omega) (by omega)).WL (by omega) (by omega), fun j => ?_, fun j => ?_, m0⟩
      · rw [WL_at]
        by_cases z : j = a
        · rw [if_pos ⟨rfl, z⟩, if_pos z]; rfl
        · rw [if_neg (fun y => z y.2), if_neg z]; rfl
      · show σ.2.2 46 j = _
        split <;> rfl
    · have e : t = 2 := (nI_eq (a := t) (b := 2) (by omega) (by omega)).mp h3
      subst e
      refine mGo_run (n := 400) ok rfl ?_
      refine mGo_side ok rfl (n64_fin (l2f_ok v).2.1) ?_
      refine mGo_side ok rfl (nI_in (by omega) (by omega)) ?_
      rw [nI_clamp (by omega)]
      refine mGo_run (n := 400) ok rfl ?_
      refine mGo_ret ok rfl trivial ⟨rfl, rfl, (fr.refl.WI (by omega) (by omega)).WD (by omega) (by omega), fun j => ?_, fun j => ?_, m0⟩
      · show σ.2.1 45 j = _
        split <;> rfl
      · rw [WD_at]
        by_cases z : j = a
        · rw [if_pos ⟨rfl, z⟩, if_pos z]; rfl
        · rw [if_neg (fun y => z y.2), if_neg z]; rfl
    · have e : t = 3 := by
        have n0 : t ≠ 0 := fun z => h1 (by rw [z]; rfl)
        have n1 : t ≠ 1 := fun z => h2 (by rw [z]; rfl)
        have n2 : t ≠ 2 := fun z => h3 (by rw [z]; rfl)
        omega
      subst e
      refine mGo_run (n := 400) ok rfl ?_
      refine mGo_side ok rfl (nI_in (by omega) (by omega)) ?_
      rw [nI_clamp (by omega)]
      refine mGo_run (n := 400) ok rfl ?_
      refine mGo_ret ok rfl trivial ⟨rfl, rfl, (fr.refl.WI (by omega) (by omega)).WD (by omega) (by omega), fun j => ?_, fun j => ?_, m0⟩
      · show σ.2.1 45 j = _
        split <;> rfl
      · rw [WD_at]
        by_cases z : j = a
        · rw [if_pos ⟨rfl, z⟩, if_pos z]; rfl
        · rw [if_neg (fun y => z y.2), if_neg z]; rfl
theorem c_divide44 {n a t : Nat} (hn : n ≤ 40) (hl : σ.1 44 4 = nI n) (ha : a < n) (ht : t = 2 ∨ t = 3) (hty : σ.1 44 3 = nI t) (op : Int32) (hx : xE t (σ.1 47 a) (σ.2.2 46 a)) : mNV g l (d + 1) 55 [.ref 44, .int (nI a), .int op] lk ex σ (fun σ1 => fr 46 48 σ σ1 ∧ (∀ j, σ1.2.2 46 j = if j = a then (dvE t (σ.1 47 a) (σ.2.2 46 a) op).2 else σ.2.2 46 j) ∧ ∀ j, σ1.1 47 j = if j = a then (dvE t (σ.1 47 a) (σ.2.2 46 a) op).1 else σ.1 47 j) := by
  have ok : mOkP md_X5_divide := ok_at 55 (by decide) rfl
  refine mC_of (md := md_X5_divide) rfl (lt_at (by decide)) rfl ?_
  have same : ∀ {τ : mHp}, τ = σ → dvE t (σ.1 47 a) (σ.2.2 46 a) op = (σ.1 47 a, σ.2.2 46 a) → fr 46 48 σ τ ∧ (∀ j, τ.2.2 46 j = if j = a then (dvE t (σ.1 47 a) (σ.2.2 46 a) op).2 else σ.2.2 46 j) ∧ ∀ j, τ.1 47 j = if j = a then (dvE t (σ.1 47 a) (σ.2.2 46 a) op).1 else σ.1 47 j := by
    intro τ e1 e2
    subst e1
    rw [e2]
    refine ⟨fr.refl, fun j => ?_, fun j => ?_⟩
    · by_cases z : j = a
      · rw [if_pos z, z]
      · rw [if_neg z]
    · by_cases z : j = a
      · rw [if_pos z, z]
      · rw [if_neg z]
  have mark : ∀ k : Int32, dvE t (σ.1 47 a) (σ.2.2 46 a) op = (k, σ.2.2 46 a) → fr 46 48 σ (mWI σ 47 a k) ∧ (∀ j, (mWI σ 47 a k).2.2 46 j = if j = a then (dvE t (σ.1 47 a) (σ.2.2 46 a) op).2 else σ.2.2 46 j) ∧ ∀ j, (mWI σ 47 a k).1 47 j = if j = a then (dvE t (σ.1 47 a) (σ.2.2 46 a) op).1 else σ.1 47 j := by
    intro k e2
    rw [e2]
    refine ⟨fr.refl.WI (by omega) (by omega), fun j => ?_, fun j => ?_⟩
    · show σ.2.2 46 j = _
      by_cases z : j = a
      · rw [if_pos z, z]
      · rw [if_neg z]
    · rw [WI_at]
      by_cases z : j = a
      · rw [if_pos ⟨rfl, z⟩, if_pos z]
      · rw [if_neg (fun y => z y.2), if_neg z]
  have numb : ∀ x : UInt64, dvE t (σ.1 47 a) (σ.2.2 46 a) op = (σ.1 47 a, x) → fr 46 48 σ (mWD σ 46 a x) ∧ (∀ j, (mWD σ 46 a x).2.2 46 j = if j = a then (dvE t (σ.1 47 a) (σ.2.2 46 a) op).2 else σ.2.2 46 j) ∧ ∀ j, (mWD σ 46 a x).1 47 j = if j = a then (dvE t (σ.1 47 a) (σ.2.2 46 a) op).1 else σ.1 47 j := by
    intro x e2
    rw [e2]
    refine ⟨fr.refl.WD (by omega) (by omega), fun j => ?_, fun j => ?_⟩
    · rw [WD_at]
      by_cases z : j = a
      · rw [if_pos ⟨rfl, z⟩, if_pos z]
      · rw [if_neg (fun y => z y.2), if_neg z]
    · show σ.1 47 j = _
      by_cases z : j = a
      · rw [if_pos z, z]
      · rw [if_neg z]
  refine mGo_run (n := 400) ok rfl ?_
  refine mGo_callP ok rfl (by omega) (c_covers44 (d := d) hl (nI a) 1) ?_
  rw [cov1 hn ha]
  refine mGo_if ok rfl (fun h => ?_) (fun h => ?_)
  · exact absurd h (by decide)
  · clear h
    refine mGo_run (n := 400) ok rfl ?_
    refine mGo_side ok rfl (nI_in (by omega) (by omega)) ?_
    rw [nI_clamp (by omega)]
    refine mGo_run (n := 400) ok rfl ?_
    refine mGo_if ok rfl (fun h3 => ?_) (fun h3 => ?_)
    · refine mGo_run (n := 400) ok rfl ?_
      have h3 : σ.1 47 a = 3 := h3
      exact mGo_ret ok rfl trivial (⟨rfl, rfl, same rfl (by unfold dvE; rw [if_pos h3])⟩)
    · have h3 : ¬ σ.1 47 a = 3 := h3
      refine mGo_run (n := 400) ok rfl ?_
      refine mGo_side ok rfl (nI_in (by omega) (by omega)) ?_
      rw [nI_clamp (by omega)]
      refine mGo_run (n := 400) ok rfl ?_
      refine mGo_side ok rfl (nI_in (by omega) (by omega)) ?_
      rw [nI_clamp (by omega)]
      refine mGo_if ok rfl (fun h0 => ?_) (fun h0 => ?_)
      · have h0 : σ.1 47 a = 0 := h0
        obtain ⟨x1, x2, x3⟩ := hx h0
        refine mGo_run (n := 400) ok rfl ?_
        refine mGo_if ok rfl (fun hop => ?_) (fun hop => ?_)
        · have hop : op = 0 := hop
          have key : dvE t (σ.1 47 a) (σ.2.2 46 a) op = ((if FP.cmpInt (-1) (FP.dcmp (σ.2.2 46 a) 0) ≤ 0 then (if 0 ≤ FP.cmpInt 1 (FP.dcmp (σ.2.2 46 a) 0) then 3 else 2) else 1), σ.2.2 46 a) := by
            unfold dvE; rw [if_neg h3, if_pos h0, if_pos hop]
          refine mGo_run (n := 400) ok rfl ?_
          refine mGo_if ok rfl (fun h1 => ?_) (fun h1 => ?_)
          · have h1 : FP.cmpInt (-1) (FP.dcmp (σ.2.2 46 a) 0) ≤ 0 := by rw [← cvL]; exact h1
            refine mGo_run (n := 400) ok rfl ?_
            refine mGo_if ok rfl (fun h2 => ?_) (fun h2 => ?_)
            · have h2 : 0 ≤ FP.cmpInt 1 (FP.dcmp (σ.2.2 46 a) 0) := by rw [← cvG]; exact h2
              refine mGo_run (n := 400) ok rfl ?_
              refine mGo_side ok rfl (nI_in (by omega) (by omega)) ?_
              rw [nI_clamp (by omega)]
              refine mGo_run (n := 400) ok rfl ?_
              exact mGo_ret ok rfl trivial (⟨rfl, rfl, mark 3 (by rw [key, if_pos h1, if_pos h2])⟩)
            · have h2 : ¬ 0 ≤ FP.cmpInt 1 (FP.dcmp (σ.2.2 46 a) 0) := by rw [← cvG]; exact h2
              refine mGo_run (n := 400) ok rfl ?_
              refine mGo_side ok rfl (nI_in (by omega) (by omega)) ?_
              rw [nI_clamp (by omega)]
              refine mGo_run (n := 400) ok rfl ?_
              exact mGo_ret ok rfl trivial (⟨rfl, rfl, mark 2 (by rw [key, if_pos h1, if_neg h2])⟩)
          · have h1 : ¬ FP.cmpInt (-1) (FP.dcmp (σ.2.2 46 a) 0) ≤ 0 := by rw [← cvL]; exact h1
            refine mGo_run (n := 400) ok rfl ?_
            refine mGo_side ok rfl (nI_in (by omega) (by omega)) ?_
            rw [nI_clamp (by omega)]
            refine mGo_run (n := 400) ok rfl ?_
            exact mGo_ret ok rfl trivial (⟨rfl, rfl, mark 1 (by rw [key, if_neg h1])⟩)
        · have hop : ¬ op = 0 := hop
          refine mGo_run (n := 400) ok rfl ?_
          rw [hty]
          refine mGo_ifI ok rfl (nI_eq (a := t) (b := 2) (by omega) (by omega)) (fun h2 => ?_) (fun h2 => ?_)
          · obtain ⟨zx, hz1, hz2⟩ := x3 h2
            have hd : FP.d2f (σ.2.2 46 a) = zx := by rw [hz2]; exact d2f_f2d' hz1
            have f1 : FP.Core.FFin (FP.d2f (σ.2.2 46 a)) := by rw [hd]; exact hz1
            have f2 := fdv_fin f1 hop
            refine mGo_run (n := 400) ok rfl ?_
            refine mGo_side ok rfl (n32_fin f1) ?_
            refine mGo_run (n := 400) ok rfl ?_
            refine mGo_side ok rfl (n32_fin f2) ?_
            refine mGo_side ok rfl (n64_fin (f2d_z f2).1) ?_
            refine mGo_side ok rfl (nI_in (by omega) (by omega)) ?_
            rw [nI_clamp (by omega)]
            refine mGo_run (n := 400) ok rfl ?_
            exact mGo_ret ok rfl trivial (⟨rfl, rfl, numb _ (by unfold dvE; rw [if_neg h3, if_pos h0, if_neg hop, if_pos h2])⟩)
          · have f2 := ddv_fin x1 hop
            refine mGo_run (n := 400) ok rfl ?_
            refine mGo_side ok rfl (n64_fin f2) ?_
            refine mGo_side ok rfl (nI_in (by omega) (by omega)) ?_
            rw [nI_clamp (by omega)]
            refine mGo_run (n := 400) ok rfl ?_
            exact mGo_ret ok rfl trivial (⟨rfl, rfl, numb _ (by unfold dvE; rw [if_neg h3, if_pos h0, if_neg hop, if_neg h2])⟩)
      · have h0 : ¬ σ.1 47 a = 0 := h0
        refine mGo_run (n := 400) ok rfl ?_
        refine mGo_if ok rfl (fun hop => ?_) (fun hop => ?_)
        · have hop : 0 ≤ op := hop
          refine mGo_run (n := 400) ok rfl ?_
          exact mGo_ret ok rfl trivial (⟨rfl, rfl, same rfl (by unfold dvE; rw [if_neg h3, if_neg h0, if_neg (Int32.not_lt.mpr hop)])⟩)
        · have hop : ¬ 0 ≤ op := hop
          refine mGo_run (n := 400) ok rfl ?_
          refine mGo_side ok rfl (nI_in (by omega) (by omega)) ?_
          rw [nI_clamp (by omega)]
          refine mGo_run (n := 400) ok rfl ?_
          refine mGo_if ok rfl (fun h1 => ?_) (fun h1 => ?_)
          · have h1 : σ.1 47 a = 1 := h1
            refine mGo_run (n := 400) ok rfl ?_
            refine mGo_side ok rfl (nI_in (by omega) (by omega)) ?_
            rw [nI_clamp (by omega)]
            refine mGo_run (n := 400) ok rfl ?_
            exact mGo_ret ok rfl trivial (⟨rfl, rfl, mark 2 (by unfold dvE; rw [if_neg h3, if_neg h0, if_pos (Int32.not_le.mp hop), if_pos h1])⟩)
          · have h1 : ¬ σ.1 47 a = 1 := h1
            refine mGo_run (n := 400) ok rfl ?_
            refine mGo_side ok rfl (nI_in (by omega) (by omega)) ?_
            rw [nI_clamp (by omega)]
            refine mGo_run (n := 400) ok rfl ?_
            exact mGo_ret ok rfl trivial (⟨rfl, rfl, mark 1 (by unfold dvE; rw [if_neg h3, if_neg h0, if_pos (Int32.not_le.mp hop), if_neg h1])⟩)
theorem c_keepRemainder44 {n a t : Nat} (hn : n ≤ 40) (hl : σ.1 44 4 = nI n) (ha : a < n) (ht : t = 2 ∨ t = 3) (hty : σ.1 44 3 = nI t) (op : Int32) (hx : xE t (σ.1 47 a) (σ.2.2 46 a)) : mNV g l (d + 1) 56 [.ref 44, .int (nI a), .int op] lk ex σ (fun σ1 => fr 46 48 σ σ1 ∧ (∀ j, σ1.2.2 46 j = if j = a then (rmE t (σ.1 47 a) (σ.2.2 46 a) op).2 else σ.2.2 46 j) ∧ ∀ j, σ1.1 47 j = if j = a then (rmE t (σ.1 47 a) (σ.2.2 46 a) op).1 else σ.1 47 j) := by
  have ok : mOkP md_X5_keepRemainder := ok_at 56 (by decide) rfl
  refine mC_of (md := md_X5_keepRemainder) rfl (lt_at (by decide)) rfl ?_
  have mark : rmE t (σ.1 47 a) (σ.2.2 46 a) op = (3, σ.2.2 46 a) → fr 46 48 σ (mWI σ 47 a 3) ∧ (∀ j, (mWI σ 47 a 3).2.2 46 j = if j = a then (rmE t (σ.1 47 a) (σ.2.2 46 a) op).2 else σ.2.2 46 j) ∧ ∀ j, (mWI σ 47 a 3).1 47 j = if j = a then (rmE t (σ.1 47 a) (σ.2.2 46 a) op).1 else σ.1 47 j := by
    intro e2
    rw [e2]
    refine ⟨fr.refl.WI (by omega) (by omega), fun j => ?_, fun j => ?_⟩
    · show σ.2.2 46 j = _
      by_cases z : j = a
      · rw [if_pos z, z]
      · rw [if_neg z]
    · rw [WI_at]
      by_cases z : j = a
      · rw [if_pos ⟨rfl, z⟩, if_pos z]
      · rw [if_neg (fun y => z y.2), if_neg z]
  have numb : ∀ x : UInt64, rmE t (σ.1 47 a) (σ.2.2 46 a) op = (σ.1 47 a, x) → fr 46 48 σ (mWD σ 46 a x) ∧ (∀ j, (mWD σ 46 a x).2.2 46 j = if j = a then (rmE t (σ.1 47 a) (σ.2.2 46 a) op).2 else σ.2.2 46 j) ∧ ∀ j, (mWD σ 46 a x).1 47 j = if j = a then (rmE t (σ.1 47 a) (σ.2.2 46 a) op).1 else σ.1 47 j := by
    intro x e2
    rw [e2]
    refine ⟨fr.refl.WD (by omega) (by omega), fun j => ?_, fun j => ?_⟩
    · rw [WD_at]
      by_cases z : j = a
      · rw [if_pos ⟨rfl, z⟩, if_pos z]
      · rw [if_neg (fun y => z y.2), if_neg z]
    · show σ.1 47 j = _
      by_cases z : j = a
      · rw [if_pos z, z]
      · rw [if_neg z]
  refine mGo_run (n := 400) ok rfl ?_
  refine mGo_callP ok rfl (by omega) (c_covers44 (d := d) hl (nI a) 1) ?_
  rw [cov1 hn ha]
  refine mGo_if ok rfl (fun h => ?_) (fun h => ?_)
  · exact absurd h (by decide)
  · clear h
    refine mGo_run (n := 400) ok rfl ?_
    refine mGo_side ok rfl (nI_in (by omega) (by omega)) ?_
    rw [nI_clamp (by omega)]
    refine mGo_if ok rfl (fun h0 => ?_) (fun h0 => ?_)
    · have h0 : σ.1 47 a = 0 := h0
      obtain ⟨x1, x2, x3⟩ := hx h0
      refine mGo_run (n := 400) ok rfl ?_
      refine mGo_if ok rfl (fun hop => ?_) (fun hop => ?_)
      · refine mGo_run (n := 400) ok rfl ?_
        refine mGo_side ok rfl (nI_in (by omega) (by omega)) ?_
        rw [nI_clamp (by omega)]
        refine mGo_run (n := 400) ok rfl ?_
        exact mGo_ret ok rfl trivial (⟨rfl, rfl, mark (by unfold rmE; rw [if_pos (Or.inr hop)])⟩)
      · have hop : ¬ op = 0 := hop
        have hne : ¬ (σ.1 47 a ≠ 0 ∨ op = 0) := fun z => z.elim (fun y => y h0) hop
        refine mGo_run (n := 400) ok rfl ?_
        rw [hty]
        refine mGo_ifI ok rfl (nI_eq (a := t) (b := 2) (by omega) (by omega)) (fun h2 => ?_) (fun h2 => ?_)
        · obtain ⟨c, q, D, hw, hu, hD31, hD1, hc0, hfl⟩ := val_i2f op
          refine mGo_run (n := 400) ok rfl ?_
          refine mGo_side ok rfl (nI_in (by omega) (by omega)) ?_
          rw [nI_clamp (by omega)]
          refine mGo_run (n := 400) ok rfl ?_
          refine mGo_callP ok rfl (by omega) (c_remainderOf (d := d) x1 x2 (hD1 hop) hD31 hfl) ?_
          refine mGo_side ok rfl (nI_in (by omega) (by omega)) ?_
          rw [nI_clamp (by omega)]
          refine mGo_run (n := 400) ok rfl ?_
          exact mGo_ret ok rfl trivial (⟨rfl, rfl, numb _ (by unfold rmE; rw [if_neg hne, if_pos h2])⟩)
        · refine mGo_run (n := 400) ok rfl ?_
          refine mGo_side ok rfl (nI_in (by omega) (by omega)) ?_
          rw [nI_clamp (by omega)]
          refine mGo_run (n := 400) ok rfl ?_
          refine mGo_callP ok rfl (by omega) (c_remainderOf (d := d) x1 x2 (op_pos hop) (FP.Core.int32_abs op) (dv := op.toInt64) (by rw [Int32.toInt_toInt64])) ?_
          refine mGo_side ok rfl (nI_in (by omega) (by omega)) ?_
          rw [nI_clamp (by omega)]
          refine mGo_run (n := 400) ok rfl ?_
          exact mGo_ret ok rfl trivial (⟨rfl, rfl, numb _ (by unfold rmE; rw [if_neg hne, if_neg h2])⟩)
    · refine mGo_run (n := 400) ok rfl ?_
      refine mGo_side ok rfl (nI_in (by omega) (by omega)) ?_
      rw [nI_clamp (by omega)]
      refine mGo_run (n := 400) ok rfl ?_
      exact mGo_ret ok rfl trivial (⟨rfl, rfl, mark (by unfold rmE; rw [if_pos (Or.inl h0)])⟩)
end T
