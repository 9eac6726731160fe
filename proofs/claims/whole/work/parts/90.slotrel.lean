/-! the slots: what both sides do to them, side by side -/
def upS (S : aSl) (q : Nat) (v : Int32 × Nat) : aSl := fun i => if i = q then v else S i
theorem upS_at (S : aSl) (q : Nat) (v : Int32 × Nat) : upS S q v q = v := if_pos rfl
theorem upS_ne {S : aSl} {q i : Nat} {v : Int32 × Nat} (h : i ≠ q) : upS S q v i = S i := if_neg h
section T
variable {σ σ1 σ2 : mHp} {F : aF} {T : aI} {bg w : Bool} {k man : Nat} {ps : aPs} {S S1 : aSl}
theorem sl_cL (hc : cL σ F T bg w k man ps S) (h : fr 32 48 σ σ1) (hs : cSl σ1 S1) : cL σ1 F T bg w k man ps S1 :=
  ⟨cF_fr h (by omega) hc.1, cS_fr h (by omega) hc.2.1, cI_sm (h 8 (by omega)) (h 9 (by omega)) hc.2.2.1, cD_fr h (by omega) hc.2.2.2.1, hs⟩
theorem sl_rL (hr : rL σ F T bg w k man ps S) (h : fr 62 68 σ σ1) (hy : yS σ1 S1) : rL σ1 F T bg w k man ps S1 := by
  have h48 := (h 48 (by omega)).1
  exact ⟨mF_k (by rw [h48]) (fun i _ _ => h i (by omega)) hr.1, mI_k (by rw [h48]) (h 52 (by omega)).1 hr.2.1, rD_k (fun j _ => by rw [h48]) (h 60 (by omega)).2.1 (h 61 (by omega)).2.1 hr.2.2.1, hy⟩
theorem sOk_up (hO : sOk S) {q t z : Nat} (ht : t < 4) (hz : z ≤ 40) : sOk (upS S q (nI t, z)) := fun i hi => by
  by_cases h : i = q
  · subst h
    rw [upS_at]
    exact ⟨hz, Or.inr ⟨t, ht, rfl⟩⟩
  · rw [upS_ne h]
    exact hO i hi
theorem sOk_dn (hO : sOk S) {q : Nat} : sOk (upS S q (-1, 0)) := fun i hi => by
  by_cases h : i = q
  · subst h
    rw [upS_at]
    exact ⟨by show 0 ≤ 40; omega, Or.inl ⟨rfl, rfl⟩⟩
  · rw [upS_ne h]
    exact hO i hi
theorem nI_t {t t1 : Nat} (h : nI t = nI t1) (h1 : t < 4) (h2 : t1 < 4) : t = t1 := (nI_eq (by omega) (by omega)).mp h
theorem al_R (hr : R0 σ F T bg w k man ps S) {q t z : Nat} (hq : q < 4) (ht : t < 4) (hz : z ≤ 40) (hA : alP (32 + 4 * q) (nI t) (nI z) σ σ1) (hB : yalP q (nI t) (nI z) σ1 σ2) : R0 σ2 F T bg w k man ps (upS S q (nI t, z)) := by
  obtain ⟨o, c, r, e⟩ := hr
  obtain ⟨a1, a2, a3, a4⟩ := hA
  obtain ⟨b1, b2, b3, b4, b5⟩ := hB
  have hs : cSl σ1 (upS S q (nI t, z)) := fun i hi => by
    by_cases h : i = q
    · subst h
      rw [upS_at]
      exact ⟨a2, a3⟩
    · rw [upS_ne h, (a1 (32 + 4 * i) (by omega)).1]
      exact c.2.2.2.2 i hi
  have f1 : fr 32 48 σ σ1 := a1.wide (by omega) (by omega)
  have r1 : rL σ1 F T bg w k man ps S := rL_hi (fun i _ _ => f1 i (by omega)) r
  refine ⟨o.slt (sOk_up o.2.2.2 ht hz), cL_lo (fun i _ => b1 i (by omega)) (sl_cL c f1 hs), sl_rL r1 (b1.wide (by omega) (by omega)) (fun i hi => ?_), fun i t' a hi h1 h2 h3 => ?_⟩
  · rw [b2, b3]
    by_cases h : i = q
    · subst h
      rw [upS_at, if_pos rfl, if_pos rfl]
      exact ⟨rfl, fun _ => rfl⟩
    · rw [upS_ne h, if_neg h, if_neg h]
      exact r1.2.2.2 i hi
  · rw [(b1 (33 + 4 * i) (by omega)).2.1, (b1 (35 + 4 * i) (by omega)).1, (b1 (34 + 4 * i) (by omega)).2.2, b4, b5]
    by_cases h : i = q
    · subst h
      rw [upS_at] at h1 h3
      have h3 : a < z := h3
      obtain ⟨u1, u2, u3⟩ := a4 a (by omega)
      rw [show 33 + 4 * i = 32 + 4 * i + 1 by omega, show 34 + 4 * i = 32 + 4 * i + 2 by omega, show 35 + 4 * i = 32 + 4 * i + 3 by omega, u1, u2, u3, if_pos (by omega), if_pos (by omega)]
      exact ⟨fun _ => rfl, fun _ => rE_0 _⟩
    · rw [upS_ne h] at h1 h3
      have h40 := (o.2.2.2 i hi).1
      rw [if_neg (by omega), if_neg (by omega), (a1 (33 + 4 * i) (by omega)).2.1, (a1 (35 + 4 * i) (by omega)).1, (a1 (34 + 4 * i) (by omega)).2.2, (a1 64 (by omega)).2.1, (a1 65 (by omega)).2.2]
      exact e i t' a hi h1 h2 h3
theorem rl_R (hr : R0 σ F T bg w k man ps S) {q : Nat} (hq : q < 4) (hA : σ1 = mWI (mWI σ (32 + 4 * q) 3 (-1)) (32 + 4 * q) 4 0) (hB : σ2 = mWI σ1 62 q (-1)) : R0 σ2 F T bg w k man ps (upS S q (-1, 0)) := by
  obtain ⟨o, c, r, e⟩ := hr
  have a1 : fr (32 + 4 * q) (33 + 4 * q) σ σ1 := by rw [hA]; exact (fr.refl.WI (by omega) (by omega)).WI (by omega) (by omega)
  have b1 : fr 62 63 σ1 σ2 := by rw [hB]; exact fr.refl.WI (by omega) (by omega)
  have hs : cSl σ1 (upS S q (-1, 0)) := fun i hi => by
    by_cases h : i = q
    · subst h
      rw [upS_at, hA]
      exact ⟨by simp [WI_at], by simp [WI_at]; rfl⟩
    · rw [upS_ne h, (a1 (32 + 4 * i) (by omega)).1]
      exact c.2.2.2.2 i hi
  have f1 : fr 32 48 σ σ1 := a1.wide (by omega) (by omega)
  have r1 : rL σ1 F T bg w k man ps S := rL_hi (fun i _ _ => f1 i (by omega)) r
  refine ⟨o.slt (sOk_dn o.2.2.2), cL_lo (fun i _ => b1 i (by omega)) (sl_cL c f1 hs), sl_rL r1 (b1.wide (by omega) (by omega)) (fun i hi => ?_), fun i t' a hi h1 h2 h3 => ?_⟩
  · rw [(b1 63 (by omega)).1, hB, WI_at]
    by_cases h : i = q
    · subst h
      rw [upS_at, if_pos ⟨rfl, rfl⟩]
      exact ⟨rfl, fun z => absurd rfl z⟩
    · rw [upS_ne h, if_neg (fun z => h z.2)]
      exact r1.2.2.2 i hi
  · by_cases h : i = q
    · subst h
      rw [upS_at] at h3
      exact absurd h3 (Nat.not_lt_zero _)
    · rw [upS_ne h] at h1 h3
      rw [(b1 (33 + 4 * i) (by omega)).2.1, (b1 (35 + 4 * i) (by omega)).1, (b1 (34 + 4 * i) (by omega)).2.2, (b1 64 (by omega)).2.1, (b1 65 (by omega)).2.2, (a1 (33 + 4 * i) (by omega)).2.1, (a1 (35 + 4 * i) (by omega)).1, (a1 (34 + 4 * i) (by omega)).2.2, (a1 64 (by omega)).2.1, (a1 65 (by omega)).2.2]
      exact e i t' a hi h1 h2 h3
/-- elements change, slots don't -/
theorem el_R (hr : R0 σ F T bg w k man ps S) {lo hi lo2 hi2 : Nat} (a1 : fr lo hi σ σ1) (h1 : 33 ≤ lo ∧ hi ≤ 48) (hc : ∀ i, i < 4 → ¬ (lo ≤ 32 + 4 * i ∧ 32 + 4 * i < hi)) (b1 : fr lo2 hi2 σ1 σ2) (h2 : 64 ≤ lo2 ∧ hi2 ≤ 68) (he : eR σ2 S) : R0 σ2 F T bg w k man ps S := by
  obtain ⟨o, c, r, e⟩ := hr
  have hs : cSl σ1 S := fun i hi => by
    rw [(a1 (32 + 4 * i) (hc i hi)).1]
    exact c.2.2.2.2 i hi
  have f1 : fr 32 48 σ σ1 := a1.wide (by omega) (by omega)
  have r1 : rL σ1 F T bg w k man ps S := rL_hi (fun i _ _ => f1 i (by omega)) r
  exact ⟨o, cL_lo (fun i _ => b1 i (by omega)) (sl_cL c f1 hs), sl_rL r1 (b1.wide (by omega) (by omega)) (yS_k (b1 62 (by omega)).1 (b1 63 (by omega)).1 r1.2.2.2), he⟩
theorem pt_R (hr : R0 σ F T bg w k man ps S) {q t a : Nat} {v : Int64} (hq : q < 4) (ht : t < 4) (hS : (S q).1 = nI t) (ha : a < (S q).2) (hA : wrP (32 + 4 * q) t a v σ σ1) (hB : ywP q t a v σ1 σ2) : R0 σ2 F T bg w k man ps S := by
  obtain ⟨a1, a2, a3, a4⟩ := hA
  obtain ⟨b1, b2, b3⟩ := hB
  refine el_R hr a1 ⟨by omega, by omega⟩ (fun i hi => by omega) b1 ⟨by omega, by omega⟩ (fun i t' x hi h1 h2 h3 => ?_)
  have h40 := (hr.1.2.2.2 i hi).1
  have hq40 := (hr.1.2.2.2 q hq).1
  have e := hr.2.2.2 i t' x hi h1 h2 h3
  rw [(b1 (33 + 4 * i) (by omega)).2.1, (b1 (35 + 4 * i) (by omega)).1, (b1 (34 + 4 * i) (by omega)).2.2, b2, b3]
  by_cases h : i = q
  · subst h
    have et : t' = t := nI_t (h1.symm.trans hS) h2 ht
    subst et
    rw [show 33 + 4 * i = 32 + 4 * i + 1 by omega, show 34 + 4 * i = 32 + 4 * i + 2 by omega, show 35 + 4 * i = 32 + 4 * i + 3 by omega, a2, a3, a4]
    by_cases y : x = a
    · subst y
      rw [if_pos rfl, if_pos rfl, if_pos rfl, if_pos rfl, if_pos rfl]
      refine ⟨fun z => ?_, fun z => ?_⟩
      · unfold wrW ywW
        by_cases y0 : t' = 0
        · rw [if_pos y0, if_pos y0]
        · rw [if_neg y0, if_neg y0, if_pos (show t' = 1 by omega)]
      · unfold wrX ywX
        by_cases y2 : t' = 2
        · subst y2
          rw [if_pos rfl, if_pos rfl]
          exact rE_put2 v
        · have y3 : t' = 3 := by omega
          subst y3
          rw [if_neg (by decide), if_pos rfl, if_neg (by decide)]
          exact rE_put3 v
    · rw [if_neg y, if_neg y, if_neg y, if_neg (by omega), if_neg (by omega), (a1 64 (by omega)).2.1, (a1 65 (by omega)).2.2]
      rw [show 33 + 4 * i = 32 + 4 * i + 1 by omega, show 34 + 4 * i = 32 + 4 * i + 2 by omega, show 35 + 4 * i = 32 + 4 * i + 3 by omega] at e
      exact e
  · rw [if_neg (by omega), if_neg (by omega), (a1 (33 + 4 * i) (by omega)).2.1, (a1 (35 + 4 * i) (by omega)).1, (a1 (34 + 4 * i) (by omega)).2.2, (a1 64 (by omega)).2.1, (a1 65 (by omega)).2.2]
    exact e
theorem op_R (hr : R0 σ F T bg w k man ps S) {q t a : Nat} {o op : Int32} {y1 : UInt64} (hq : q < 4) (ht : t = 2 ∨ t = 3) (ho : o = 0 ∨ o = 1) (hS : (S q).1 = nI t) (ha : a < (S q).2) (hA : opP (32 + 4 * q) t a o op σ σ1) (hy : rfD t o (σ1.2.2 65 (40 * q + a)) op y1) (hB : σ2 = mWD σ1 65 (40 * q + a) y1) : R0 σ2 F T bg w k man ps S := by
  obtain ⟨a1, a3, a4⟩ := hA
  have b1 : fr 65 66 σ1 σ2 := by rw [hB]; exact fr.refl.WD (by omega) (by omega)
  have b3 : ∀ j, σ2.2.2 65 j = if j = 40 * q + a then y1 else σ1.2.2 65 j := fun j => by
    rw [hB, WD_at]
    by_cases z : j = 40 * q + a
    · rw [if_pos ⟨rfl, z⟩, if_pos z]
    · rw [if_neg (fun y => z y.2), if_neg z]
  refine el_R hr a1 ⟨by omega, by omega⟩ (fun i hi => by omega) b1 ⟨by omega, by omega⟩ (fun i t' x hi h1 h2 h3 => ?_)
  have h40 := (hr.1.2.2.2 i hi).1
  have hq40 := (hr.1.2.2.2 q hq).1
  have e := hr.2.2.2 i t' x hi h1 h2 h3
  rw [(b1 (33 + 4 * i) (by omega)).2.1, (b1 (35 + 4 * i) (by omega)).1, (b1 (34 + 4 * i) (by omega)).2.2, (b1 64 (by omega)).2.1, b3, (a1 64 (by omega)).2.1]
  rw [(a1 65 (by omega)).2.2] at hy ⊢
  by_cases h : i = q
  · subst h
    have et : t' = t := nI_t (h1.symm.trans hS) h2 (by omega)
    subst et
    rw [(a1 (33 + 4 * i) (by omega)).2.1, show 34 + 4 * i = 32 + 4 * i + 2 by omega, show 35 + 4 * i = 32 + 4 * i + 3 by omega, a3, a4]
    by_cases y : x = a
    · subst y
      rw [if_pos rfl, if_pos rfl, if_pos rfl]
      have e2 := e.2 (by omega)
      rw [show 34 + 4 * i = 32 + 4 * i + 2 by omega, show 35 + 4 * i = 32 + 4 * i + 3 by omega] at e2
      refine ⟨fun z => by omega, fun _ => ?_⟩
      unfold opE
      rcases ho with rfl | rfl
      · rw [if_pos rfl]
        rcases ht with rfl | rfl
        · exact rE_div2 e2 hy
        · exact rE_div3 e2 hy
      · rw [if_neg (by decide)]
        rcases ht with rfl | rfl
        · exact rE_rem2 e2 hy
        · exact rE_rem3 e2 hy
    · rw [if_neg y, if_neg y, if_neg (by omega)]
      have e3 := e
      rw [show 34 + 4 * i = 32 + 4 * i + 2 by omega, show 35 + 4 * i = 32 + 4 * i + 3 by omega] at e3
      exact e3
  · rw [if_neg (by omega), (a1 (33 + 4 * i) (by omega)).2.1, (a1 (35 + 4 * i) (by omega)).1, (a1 (34 + 4 * i) (by omega)).2.2]
    exact e
theorem cp_R (hr : R0 σ F T bg w k man ps S) {q q2 a a2 n : Nat} (hq : q < 4) (hq2 : q2 < 4) (h1 : a + n ≤ (S q).2) (h2 : a2 + n ≤ (S q2).2) (hS : (S q).1 = (S q2).1) (hA : cpP (32 + 4 * q) (32 + 4 * q2) a a2 n σ σ1) (hB : ycP q q2 a a2 n σ1 σ2) : R0 σ2 F T bg w k man ps S := by
  obtain ⟨a1, a3, a4, a5⟩ := hA
  obtain ⟨b1, b2, b3⟩ := hB
  refine el_R hr a1 ⟨by omega, by omega⟩ (fun i hi => by omega) b1 ⟨by omega, by omega⟩ (fun i t' x hi g1 g2 g3 => ?_)
  have h40 := (hr.1.2.2.2 i hi).1
  have hq40 := (hr.1.2.2.2 q hq).1
  have hq240 := (hr.1.2.2.2 q2 hq2).1
  have e := hr.2.2.2 i t' x hi g1 g2 g3
  rw [(b1 (33 + 4 * i) (by omega)).2.1, (b1 (35 + 4 * i) (by omega)).1, (b1 (34 + 4 * i) (by omega)).2.2, b2, b3, (a1 64 (by omega)).2.1, (a1 65 (by omega)).2.2]
  by_cases h : i = q2
  · subst h
    rw [show 33 + 4 * i = 32 + 4 * i + 1 by omega, show 34 + 4 * i = 32 + 4 * i + 2 by omega, show 35 + 4 * i = 32 + 4 * i + 3 by omega, a3, a4, a5]
    by_cases y : a2 ≤ x ∧ x < a2 + n
    · rw [if_pos y, if_pos y, if_pos y, if_pos (by omega), if_pos (by omega)]
      have e2 := hr.2.2.2 q t' (a + (x - a2)) hq (hS.trans g1) g2 (by omega)
      rw [show 33 + 4 * q = 32 + 4 * q + 1 by omega, show 34 + 4 * q = 32 + 4 * q + 2 by omega, show 35 + 4 * q = 32 + 4 * q + 3 by omega, show 40 * q + (a + (x - a2)) = 40 * q + a + (40 * i + x - (40 * i + a2)) by omega] at e2
      exact e2
    · rw [if_neg y, if_neg y, if_neg y, if_neg (by omega), if_neg (by omega)]
      rw [show 33 + 4 * i = 32 + 4 * i + 1 by omega, show 34 + 4 * i = 32 + 4 * i + 2 by omega, show 35 + 4 * i = 32 + 4 * i + 3 by omega] at e
      exact e
  · rw [if_neg (by omega), if_neg (by omega), (a1 (33 + 4 * i) (by omega)).2.1, (a1 (35 + 4 * i) (by omega)).1, (a1 (34 + 4 * i) (by omega)).2.2]
    exact e
theorem xE_of (he : eR σ S) : ∀ k t a, k < 4 → (S k).1 = nI t → t = 2 ∨ t = 3 → a < (S k).2 → xE t (σ.1 (35 + 4 * k) a) (σ.2.2 (34 + 4 * k) a) := fun k t a hk h1 h2 h3 => rE_x ((he k t a hk h1 (by omega) h3).2 (by omega))
theorem el_eq (hO : sOk S) (he : eR σ S) (s i : Int32) : qEl S σ s i = (if (0 ≤ s ∧ s < 4) ∧ (S s.toNatClampNeg).1 ≠ -1 ∧ covB (S s.toNatClampNeg).2 i 1 = true then (if (S s.toNatClampNeg).1.toNatClampNeg < 2 then σ.2.1 64 (40 * s.toNatClampNeg + i.toNatClampNeg) else FP.d2l (σ.2.2 65 (40 * s.toNatClampNeg + i.toNatClampNeg))) else -9223372036854775808) := by
  unfold qEl
  by_cases h : (0 ≤ s ∧ s < 4) ∧ (S s.toNatClampNeg).1 ≠ -1 ∧ covB (S s.toNatClampNeg).2 i 1 = true
  · rw [if_pos h, if_pos h]
    obtain ⟨h1, h2, h3⟩ := h
    obtain ⟨k, hk, rfl⟩ := sl_in.mp h1
    rw [nI_clamp (by omega)] at h2 h3 ⊢
    obtain ⟨a, n, rfl, hn, hle⟩ := (qCov_iff (hO k hk).1).mp (covB_iff.mp h3)
    have e1 : n = 1 := ((nI_eq (a := n) (b := 1) (by have := (hO k hk).1; omega) (by omega)).mp hn.symm)
    subst e1
    have h40 := (hO k hk).1
    rw [nI_clamp (n := a) (by omega)]
    rcases (hO k hk).2 with ⟨z, -⟩ | ⟨t, ht, z⟩
    · exact absurd z h2
    · rw [z, nI_clamp (n := t) (by omega)]
      have e := he k t a hk z ht (by omega)
      by_cases y : t < 2
      · rw [if_pos y]
        unfold rdV
        rw [if_pos y]
        exact e.1 y
      · rw [if_neg y]
        exact rE_read (by omega) (e.2 (by omega))
  · rw [if_neg h, if_neg h]
theorem rp_eq (hO : sOk S) (he : eR σ S) (hc : σ1.2.1 64 = σ.2.1 64) (s f m : Int32) : qRq F S (fun k => σ.2.1 (33 + 4 * k)) s f m = qRq F S (fun k i => σ1.2.1 64 (40 * k + i)) s f m := by
  unfold qRq
  rw [hc]
  by_cases h : 0 ≤ s ∧ s < 4
  · rw [if_pos h, if_pos h]
    obtain ⟨k, hk, rfl⟩ := sl_in.mp h
    rw [nI_clamp (by omega)]
    by_cases z : (S k).1 = nI 0
    · exact qRp_congr (fun x hx => (he k 0 x hk z (by omega) hx).1 (by omega))
    · unfold qRp
      by_cases z1 : (S k).1 = -1
      · rw [if_pos z1, if_pos z1]
      · rw [if_neg z1, if_neg z1, if_pos (show (S k).1 ≠ 0 from z), if_pos (show (S k).1 ≠ 0 from z)]
  · rw [if_neg h, if_neg h]
theorem rp_dOk (hf : fOk F) (hd : dOk F k man ps) (W : Nat → Nat → Int64) (s f m : Int32) : dOk F (rpD (qRq F S W s f m).2 bg w k man ps).2.2.1 (rpD (qRq F S W s f m).2 bg w k man ps).2.2.2.1 (rpD (qRq F S W s f m).2 bg w k man ps).2.2.2.2 := by
  unfold qRq
  by_cases h : 0 ≤ s ∧ s < 4
  · rw [if_pos h]
    unfold qRp
    split
    · exact hd
    · split
      · exact hd
      · split
        · exact hd
        · rename_i g1
          split
          · exact hd
          · rename_i g2
            have g1 := Classical.not_not.mp g1
            have g2 := Classical.not_not.mp g2
            obtain ⟨j, hj, rfl⟩ := (i_in (by have := hf.2.1; omega)).mp g1
            obtain ⟨mn, hmn, rfl⟩ := qMan_n g2.1
            have hj2 := hf.2.1
            rw [nI_clamp (n := j) (by omega)] at g2 ⊢
            rw [nI_clamp (n := mn) (by omega)]
            exact RP_dOk hf (W _) _ _ _ _ (dOk_st hf hmn hj g2.2)
  · rw [if_neg h]
    exact hd
theorem qNeg_ok (hf : fOk F) (f : Int32) : fOk (qNeg F f).2 ∧ fle F (qNeg F f).2 := by
  unfold qNeg
  cases h : vF F f with
  | none => exact ⟨hf, fle.refl⟩
  | some j => exact ⟨(aMk_ok hf ⟨by omega, by omega⟩ (vF_some hf.2.1 h).1 (by have := hf.1; omega) (fun _ => rfl)).1, aMk_fle F 1 j 0⟩
theorem qCom_ok (hf : fOk F) (c f f2 : Int32) : fOk (qCom F c f f2).2 ∧ fle F (qCom F c f f2).2 := by
  unfold qCom
  by_cases hc : 2 ≤ c ∧ c ≤ 4
  · rw [if_pos hc]
    cases h : vF F f with
    | none => exact ⟨hf, fle.refl⟩
    | some i =>
      cases h2 : vF F f2 with
      | none => exact ⟨hf, fle.refl⟩
      | some j =>
        obtain ⟨x, hx, rfl⟩ := nI_of (x := c) (fun z => absurd (Int32.lt_of_le_of_lt hc.1 z) (by decide))
        have q1 := (nI_leI (a := 2) (b := x) (by omega) hx).mp hc.1
        have q2 := (nI_leI (a := x) (b := 4) hx (by omega)).mp hc.2
        rw [nI_clamp hx]
        exact ⟨(aMk_ok hf ⟨by omega, by omega⟩ (vF_some hf.2.1 h).1 (vF_some hf.2.1 h2).1 (fun z => by omega)).1, aMk_fle F x i j⟩
  · rw [if_neg hc]
    exact ⟨hf, fle.refl⟩
theorem qApp_le (hT : T.1 ≤ 40) (v c : Int32) : (qApp T v c).2.1 ≤ 40 := by
  unfold qApp
  split
  · split
    · assumption
    · exact hT
  · exact hT
/-- everything is set back -/
theorem rs_R (hr : R0 σ F T bg w k man ps S) (hA : σ1 = mWI (mWI (mWI (mWI σ 1 6 4) 15 4 0) 15 5 0) 15 3 0) (hB : σ2 = mWI (mWI σ1 48 0 4) 48 24 0) : R0 σ2 (f4 F) T false false 0 0 (fun _ => (0, 0)) S := by
  obtain ⟨o, ⟨c1, c2, c3, c4, c5⟩, r, e⟩ := hr
  have hl : fle (f4 F) F := ⟨o.1.1, fun _ _ => ⟨rfl, rfl, rfl⟩⟩
  have a1 : fr 1 16 σ σ1 := by rw [hA]; exact (((fr.refl.WI (by omega) (by omega)).WI (by omega) (by omega)).WI (by omega) (by omega)).WI (by omega) (by omega)
  have a2 : fr 15 16 (mWI σ 1 6 4) σ1 := by rw [hA]; exact ((fr.refl.WI (by omega) (by omega)).WI (by omega) (by omega)).WI (by omega) (by omega)
  have a3 : fr 1 2 σ (mWI σ 1 6 4) := fr.refl.WI (by omega) (by omega)
  have b1 : fr 48 49 σ1 σ2 := by rw [hB]; exact (fr.refl.WI (by omega) (by omega)).WI (by omega) (by omega)
  have bm : fm [0, 24] σ1 σ2 := by rw [hB]; exact (fm.refl.WI (fun _ => by decide)).WI (fun _ => by decide)
  have r1 : rL σ1 F T bg w k man ps S := rL_hi (fun i _ _ => a1 i (by omega)) r
  have q1 : cF σ1 (f4 F) := cF_fr a2 (by omega) (cF_cut hl c1)
  have q2 : cS σ1 (f4 F) := cS_fr a2 (by omega) (cS_cut hl c2)
  have q3 : cI σ1 T := cI_sm ((a3 8 (by omega)).imp (fun h => by rw [(a2 8 (by omega)).1, h]) (fun h => ⟨by rw [(a2 8 (by omega)).2.1, h.1], by rw [(a2 8 (by omega)).2.2, h.2]⟩)) ((a3 9 (by omega)).imp (fun h => by rw [(a2 9 (by omega)).1, h]) (fun h => ⟨by rw [(a2 9 (by omega)).2.1, h.1], by rw [(a2 9 (by omega)).2.2, h.2]⟩)) c3
  have q4 : cD σ1 (f4 F) false false 0 0 (fun _ => (0, 0)) := by
    rw [hA]
    exact ⟨by simp [WI_at, bI], by simp [WI_at, bI], by simp [WI_at]; rfl, fun z => absurd z (by decide)⟩
  refine ⟨⟨f4_ok o.1, o.2.1, ⟨by omega, by omega, fun _ _ => ⟨und_0, und_0⟩⟩, o.2.2.2⟩, cL_lo (fun i _ => b1 i (by omega)) ⟨q1, q2, q3, q4, cSl_sm (fun i _ _ => a1 i (by omega)) c5⟩, ⟨?_, mI_k (bm 6 (by decide)).1 (b1 52 (by omega)).1 r1.2.1, ⟨?_, fun z => absurd z (by decide)⟩, yS_k (b1 62 (by omega)).1 (b1 63 (by omega)).1 r1.2.2.2⟩, eR_sm (fun i _ _ => b1 i (by omega)) (b1 64 (by omega)).2.1 (b1 65 (by omega)).2.2 (eR_sm (fun i _ _ => a1 i (by omega)) (a1 64 (by omega)).2.1 (a1 65 (by omega)).2.2 e)⟩
  · refine ⟨by rw [hB]; simp [WI_at]; rfl, fun j hj => ?_⟩
    rw [(b1 49 (by omega)).1, (b1 50 (by omega)).1, (b1 51 (by omega)).1]
    exact r1.1.2 j (Nat.lt_of_lt_of_le hj hl.1)
  · rw [hB]
    simp [WI_at, bI]
end T
