/-! the reference reads a text: levels, and its parse -/
section T
variable {g : mG} {l : Launch} {lk : Nat} {ex : mSh} {T : aI}
set_option maxHeartbeats 1000000 in
theorem m_cj {m : Nat} (hs : ∀ m1, m1 ≤ m → RC g l lk ex T 131 1 0 3 m1) : RC g l lk ex T 130 2 2 4 m := by
  intro d σ dp k mk fl F hkm h hmk
  have hT : T.1 ≤ 40 := h.2.2.2.2.2.2.2.2.2.1
  have ok : mOkP md_X9_readConjunction := ok_at 130 (by decide) rfl
  refine mC_of (md := md_X9_readConjunction) rfl (lt_at (by decide)) rfl ?_
  refine mGo_run (n := 400) ok rfl ?_
  refine mGo_call ok rfl (by omega) (hs m (Nat.le_refl _) d σ dp k mk fl F hkm h hmk) (fun r sp τ1 hq => ?_)
  obtain ⟨rfl, a, k1, flt, F1, fl1, rfl, q1, q2, q3, q4, q5⟩ := hq
  refine mGo_runS 5 (n := 400) ok rfl ?_
  have loop : ∀ n (τ : mHp) (a k1 : Nat) (flt : Option Nat) (F1 : aF) (fl1 : Bool) (L2 : Option Value), T.1 - k1 ≤ n → fR σ τ → rS τ T k1 flt mk F1 fl1 → a < aN F1 → fleM mk F F1 → rel T 1 2 dp k mk F fl a k1 flt F1 fl1 → mGo g l (d + 4 * m + 4) md_X9_readConjunction (SH lk ex).length (mTot (SH lk ex)) (5, [some (.ref 48), some (.int (nI a)), L2], [], SH lk ex, τ) (fun r sp σ1 => sp = SH lk ex ∧ rQ T 2 2 dp k mk F fl σ r σ1) := by
    intro n
    induction n with
    | zero =>
      intro τ a k1 flt F1 fl1 L2 hn q1 q2 q3 q4 q5
      refine mGo_run (n := 400) ok rfl ?_
      refine mGo_callR ok rfl (by omega) (m_goes0 (d := d) q2 (c := 38) (fun a b z => by omega)) (fun τ2 hτ2 => ?_)
      obtain ⟨g1, g2⟩ := hτ2
      refine mGo_if ok rfl (fun h1 => ?_) (fun h1 => ?_)
      · refine mGo_run (n := 400) ok rfl ?_
        exact mGo_ret ok rfl trivial (⟨rfl, a, k1, flt, F1, fl1, rfl, q1.trans g1, g2, q3, q4, rel_nx (p := 1) q5 (fun a b z => by omega)⟩)
      · exact absurd rfl h1
    | succ n ih =>
      intro τ a k1 flt F1 fl1 L2 hn q1 q2 q3 q4 q5
      by_cases c4 : flt = none ∧ k1 < T.1 ∧ cls (T.2 k1) = 2
      · obtain ⟨rfl, c4, c5⟩ := c4
        refine mGo_run (n := 400) ok rfl ?_
        refine mGo_callR ok rfl (by omega) (m_goes1 (d := d) q2 c4 ((cls_op _).2.1.mp c5)) (fun τ2 hτ2 => ?_)
        obtain ⟨g1, g2⟩ := hτ2
        refine mGo_if ok rfl (fun h1 => ?_) (fun h1 => ?_)
        · exact absurd h1 (by decide)
        · refine mGo_run (n := 400) ok rfl ?_
          have hk1 : k < k1 := q5.1
          have e2 : AF T true dp k (T.1 - k) = AF T true dp (k1 + 1) (T.1 - (k1 + 1)) := by
            rw [q5.2.2.1, show T.1 - k1 = (T.1 - (k1 + 1)) + 1 by omega]
            simp only [AF]
            rw [if_neg (by omega), if_pos (by omega)]
          refine mGo_call ok rfl (by omega) (hs (T.1 - (k1 + 1)) (by omega) d τ2 dp (k1 + 1) mk fl1 F1 (by omega) g2 (fun z => by rw [← e2]; exact hmk z)) (fun r sp τ3 hq => ?_)
          obtain ⟨rfl, b, k2, flt2, F2, fl2, rfl, p1, p2, p3, p4, p5⟩ := hq
          have hf2 := p2.2.2.2.2.2.2.1
          have ha2 : a < aN F2 := Nat.lt_of_lt_of_le q3 p4.1.1
          have mo := mdP_ok2 hf2 mk fl2 (k := 2) (a := a) (b := b) (by omega) ha2 p3 (fun z => by omega)
          have hr := rel_bin (c := 2) (tq := 0) q5 c4 c5 (by omega) rfl p5 (by omega) (by omega) (by omega) (by omega) hmk hf2
          refine mGo_run (n := 400) ok rfl ?_
          refine mGo_callR ok rfl (by omega) (m_made (d := d) p2 (c := 2) (a := a) (b := b) (by omega) ha2 p3 (fun z => by omega)) (fun τ4 hτ4 => ?_)
          refine mGo_runS 5 (n := 400) ok rfl ?_
          cases flt2 with
          | none => exact ih τ4 _ k2 none _ _ _ (by have := p5.1; omega) (((q1.trans g1).trans p1).trans hτ4.1) hτ4.2 mo.2.1 ((q4.trans p4).trans mo.2.2) hr
          | some e =>
            refine mGo_run (n := 400) ok rfl ?_
            refine mGo_callR ok rfl (by omega) (m_goes0 (d := d) hτ4.2 (c := 38) (fun z => by cases z)) (fun τ5 hτ5 => ?_)
            obtain ⟨g5, g6⟩ := hτ5
            refine mGo_if ok rfl (fun h5 => ?_) (fun h5 => ?_)
            · refine mGo_run (n := 400) ok rfl ?_
              exact mGo_ret ok rfl trivial (⟨rfl, _, k2, some e, _, _, rfl, (((q1.trans g1).trans p1).trans hτ4.1).trans g5, g6, mo.2.1, (q4.trans p4).trans mo.2.2, hr⟩)
            · exact absurd rfl h5
      · refine mGo_run (n := 400) ok rfl ?_
        refine mGo_callR ok rfl (by omega) (m_goes0 (d := d) q2 (c := 38) (fun a b z => c4 ⟨a, b, (cls_op _).2.1.mpr z⟩)) (fun τ2 hτ2 => ?_)
        obtain ⟨g1, g2⟩ := hτ2
        refine mGo_if ok rfl (fun h1 => ?_) (fun h1 => ?_)
        · refine mGo_run (n := 400) ok rfl ?_
          exact mGo_ret ok rfl trivial (⟨rfl, a, k1, flt, F1, fl1, rfl, q1.trans g1, g2, q3, q4, rel_nx (p := 1) q5 (fun a b z => c4 ⟨a, b, z⟩)⟩)
        · exact absurd rfl h1
  exact loop (T.1 - k1) τ1 a k1 flt F1 fl1 none (Nat.le_refl _) q1 q2 q3 q4 (rel_up q5 (by omega))
set_option maxHeartbeats 1000000 in
theorem m_dj {m : Nat} (hs : ∀ m1, m1 ≤ m → RC g l lk ex T 130 2 2 4 m1) : RC g l lk ex T 129 3 3 5 m := by
  intro d σ dp k mk fl F hkm h hmk
  have hT : T.1 ≤ 40 := h.2.2.2.2.2.2.2.2.2.1
  have ok : mOkP md_X9_readDisjunction := ok_at 129 (by decide) rfl
  refine mC_of (md := md_X9_readDisjunction) rfl (lt_at (by decide)) rfl ?_
  refine mGo_run (n := 400) ok rfl ?_
  refine mGo_call ok rfl (by omega) (hs m (Nat.le_refl _) d σ dp k mk fl F hkm h hmk) (fun r sp τ1 hq => ?_)
  obtain ⟨rfl, a, k1, flt, F1, fl1, rfl, q1, q2, q3, q4, q5⟩ := hq
  refine mGo_runS 5 (n := 400) ok rfl ?_
  have loop : ∀ n (τ : mHp) (a k1 : Nat) (flt : Option Nat) (F1 : aF) (fl1 : Bool) (L2 : Option Value), T.1 - k1 ≤ n → fR σ τ → rS τ T k1 flt mk F1 fl1 → a < aN F1 → fleM mk F F1 → rel T 2 3 dp k mk F fl a k1 flt F1 fl1 → mGo g l (d + 4 * m + 5) md_X9_readDisjunction (SH lk ex).length (mTot (SH lk ex)) (5, [some (.ref 48), some (.int (nI a)), L2], [], SH lk ex, τ) (fun r sp σ1 => sp = SH lk ex ∧ rQ T 3 3 dp k mk F fl σ r σ1) := by
    intro n
    induction n with
    | zero =>
      intro τ a k1 flt F1 fl1 L2 hn q1 q2 q3 q4 q5
      refine mGo_run (n := 400) ok rfl ?_
      refine mGo_callR ok rfl (by omega) (m_goes0 (d := d) q2 (c := 124) (fun a b z => by omega)) (fun τ2 hτ2 => ?_)
      obtain ⟨g1, g2⟩ := hτ2
      refine mGo_if ok rfl (fun h1 => ?_) (fun h1 => ?_)
      · refine mGo_run (n := 400) ok rfl ?_
        exact mGo_ret ok rfl trivial (⟨rfl, a, k1, flt, F1, fl1, rfl, q1.trans g1, g2, q3, q4, rel_nx (p := 2) q5 (fun a b z => by omega)⟩)
      · exact absurd rfl h1
    | succ n ih =>
      intro τ a k1 flt F1 fl1 L2 hn q1 q2 q3 q4 q5
      by_cases c4 : flt = none ∧ k1 < T.1 ∧ cls (T.2 k1) = 3
      · obtain ⟨rfl, c4, c5⟩ := c4
        refine mGo_run (n := 400) ok rfl ?_
        refine mGo_callR ok rfl (by omega) (m_goes1 (d := d) q2 c4 ((cls_op _).2.2.1.mp c5)) (fun τ2 hτ2 => ?_)
        obtain ⟨g1, g2⟩ := hτ2
        refine mGo_if ok rfl (fun h1 => ?_) (fun h1 => ?_)
        · exact absurd h1 (by decide)
        · refine mGo_run (n := 400) ok rfl ?_
          have hk1 : k < k1 := q5.1
          have e2 : AF T true dp k (T.1 - k) = AF T true dp (k1 + 1) (T.1 - (k1 + 1)) := by
            rw [q5.2.2.1, show T.1 - k1 = (T.1 - (k1 + 1)) + 1 by omega]
            simp only [AF]
            rw [if_neg (by omega), if_pos (by omega)]
          refine mGo_call ok rfl (by omega) (hs (T.1 - (k1 + 1)) (by omega) d τ2 dp (k1 + 1) mk fl1 F1 (by omega) g2 (fun z => by rw [← e2]; exact hmk z)) (fun r sp τ3 hq => ?_)
          obtain ⟨rfl, b, k2, flt2, F2, fl2, rfl, p1, p2, p3, p4, p5⟩ := hq
          have hf2 := p2.2.2.2.2.2.2.1
          have ha2 : a < aN F2 := Nat.lt_of_lt_of_le q3 p4.1.1
          have mo := mdP_ok2 hf2 mk fl2 (k := 3) (a := a) (b := b) (by omega) ha2 p3 (fun z => by omega)
          have hr := rel_bin (c := 3) (tq := 2) q5 c4 c5 (by omega) rfl p5 (by omega) (by omega) (by omega) (by omega) hmk hf2
          refine mGo_run (n := 400) ok rfl ?_
          refine mGo_callR ok rfl (by omega) (m_made (d := d) p2 (c := 3) (a := a) (b := b) (by omega) ha2 p3 (fun z => by omega)) (fun τ4 hτ4 => ?_)
          refine mGo_runS 5 (n := 400) ok rfl ?_
          cases flt2 with
          | none => exact ih τ4 _ k2 none _ _ _ (by have := p5.1; omega) (((q1.trans g1).trans p1).trans hτ4.1) hτ4.2 mo.2.1 ((q4.trans p4).trans mo.2.2) hr
          | some e =>
            refine mGo_run (n := 400) ok rfl ?_
            refine mGo_callR ok rfl (by omega) (m_goes0 (d := d) hτ4.2 (c := 124) (fun z => by cases z)) (fun τ5 hτ5 => ?_)
            obtain ⟨g5, g6⟩ := hτ5
            refine mGo_if ok rfl (fun h5 => ?_) (fun h5 => ?_)
            · refine mGo_run (n := 400) ok rfl ?_
              exact mGo_ret ok rfl trivial (⟨rfl, _, k2, some e, _, _, rfl, (((q1.trans g1).trans p1).trans hτ4.1).trans g5, g6, mo.2.1, (q4.trans p4).trans mo.2.2, hr⟩)
            · exact absurd rfl h5
      · refine mGo_run (n := 400) ok rfl ?_
        refine mGo_callR ok rfl (by omega) (m_goes0 (d := d) q2 (c := 124) (fun a b z => c4 ⟨a, b, (cls_op _).2.2.1.mpr z⟩)) (fun τ2 hτ2 => ?_)
        obtain ⟨g1, g2⟩ := hτ2
        refine mGo_if ok rfl (fun h1 => ?_) (fun h1 => ?_)
        · refine mGo_run (n := 400) ok rfl ?_
          exact mGo_ret ok rfl trivial (⟨rfl, a, k1, flt, F1, fl1, rfl, q1.trans g1, g2, q3, q4, rel_nx (p := 2) q5 (fun a b z => c4 ⟨a, b, z⟩)⟩)
        · exact absurd rfl h1
  exact loop (T.1 - k1) τ1 a k1 flt F1 fl1 none (Nat.le_refl _) q1 q2 q3 q4 (rel_up q5 (by omega))
theorem m_impl {m : Nat} (hs : ∀ m1, m1 ≤ m → RC g l lk ex T 129 3 3 5 m1) (hi : ∀ m1, m1 < m → RC g l lk ex T 128 4 3 6 m1) : RC g l lk ex T 128 4 3 6 m := by
  intro d σ dp k mk fl F hkm h hmk
  have hT : T.1 ≤ 40 := h.2.2.2.2.2.2.2.2.2.1
  have ok : mOkP md_X9_readImplication := ok_at 128 (by decide) rfl
  refine mC_of (md := md_X9_readImplication) rfl (lt_at (by decide)) rfl ?_
  refine mGo_run (n := 400) ok rfl ?_
  refine mGo_call ok rfl (by omega) (hs m (Nat.le_refl _) d σ dp k mk fl F hkm h hmk) (fun r sp τ1 hq => ?_)
  obtain ⟨rfl, a, k1, flt, F1, fl1, rfl, q1, q2, q3, q4, q5⟩ := hq
  by_cases c4 : flt = none ∧ k1 < T.1 ∧ cls (T.2 k1) = 4
  · obtain ⟨rfl, c4, c5⟩ := c4
    refine mGo_run (n := 400) ok rfl ?_
    refine mGo_callR ok rfl (by omega) (m_goes1 (d := d) q2 c4 ((cls_op _).2.2.2.mp c5)) (fun τ2 hτ2 => ?_)
    obtain ⟨g1, g2⟩ := hτ2
    refine mGo_if ok rfl (fun h1 => ?_) (fun h1 => ?_)
    · exact absurd h1 (by decide)
    · refine mGo_run (n := 400) ok rfl ?_
      have hk1 : k < k1 := q5.1
      have e2 : AF T true dp k (T.1 - k) = AF T true dp (k1 + 1) (T.1 - (k1 + 1)) := by
        rw [q5.2.2.1, show T.1 - k1 = (T.1 - (k1 + 1)) + 1 by omega]
        simp only [AF]
        rw [if_neg (by omega), if_pos (by omega)]
      refine mGo_call ok rfl (by omega) (hi (T.1 - (k1 + 1)) (by omega) d τ2 dp (k1 + 1) mk fl1 F1 (by omega) g2 (fun z => by rw [← e2]; exact hmk z)) (fun r sp τ3 hq => ?_)
      obtain ⟨rfl, b, k2, flt2, F2, fl2, rfl, p1, p2, p3, p4, p5⟩ := hq
      have hf2 := p2.2.2.2.2.2.2.1
      have ha2 : a < aN F2 := Nat.lt_of_lt_of_le q3 p4.1.1
      have mo := mdP_ok2 hf2 mk fl2 (k := 4) (a := a) (b := b) (by omega) ha2 p3 (fun z => by omega)
      refine mGo_run (n := 400) ok rfl ?_
      refine mGo_callR ok rfl (by omega) (m_made (d := d) p2 (c := 4) (a := a) (b := b) (by omega) ha2 p3 (fun z => by omega)) (fun τ4 hτ4 => ?_)
      refine mGo_run (n := 400) ok rfl ?_
      exact mGo_ret ok rfl trivial (⟨rfl, _, k2, flt2, _, _, rfl, ((q1.trans g1).trans p1).trans hτ4.1, hτ4.2, mo.2.1, (q4.trans p4).trans mo.2.2, rel_bin (c := 4) (tq := 3) q5 c4 c5 (by omega) rfl p5 (by omega) (by omega) (by omega) (by omega) hmk hf2⟩)
  · refine mGo_run (n := 400) ok rfl ?_
    refine mGo_callR ok rfl (by omega) (m_goes0 (d := d) q2 (c := 62) (fun a b z => c4 ⟨a, b, (cls_op _).2.2.2.mpr z⟩)) (fun τ2 hτ2 => ?_)
    obtain ⟨g1, g2⟩ := hτ2
    refine mGo_if ok rfl (fun h1 => ?_) (fun h1 => ?_)
    · refine mGo_run (n := 400) ok rfl ?_
      exact mGo_ret ok rfl trivial (⟨rfl, a, k1, flt, F1, fl1, rfl, q1.trans g1, g2, q3, q4, rel_nx (p := 3) q5 (fun a b z => c4 ⟨a, b, z⟩)⟩)
    · exact absurd rfl h1
theorem m_read (m : Nat) : RC g l lk ex T 131 1 0 3 m ∧ RC g l lk ex T 130 2 2 4 m ∧ RC g l lk ex T 129 3 3 5 m ∧ RC g l lk ex T 128 4 3 6 m := by
  induction m using Nat.strongRecOn with
  | _ m ih =>
    have s1 := m_simple (m := m) (fun m1 h => (ih m1 h).1) (fun m1 h => (ih m1 h).2.2.2)
    have sA : ∀ m1, m1 ≤ m → RC g l lk ex T 131 1 0 3 m1 := fun m1 h => by
      rcases Nat.eq_or_lt_of_le h with z | z
      · rw [z]; exact s1
      · exact (ih m1 z).1
    have c1 := m_cj (m := m) sA
    have cA : ∀ m1, m1 ≤ m → RC g l lk ex T 130 2 2 4 m1 := fun m1 h => by
      rcases Nat.eq_or_lt_of_le h with z | z
      · rw [z]; exact c1
      · exact (ih m1 z).2.1
    have d1 := m_dj (m := m) cA
    have dA : ∀ m1, m1 ≤ m → RC g l lk ex T 129 3 3 5 m1 := fun m1 h => by
      rcases Nat.eq_or_lt_of_le h with z | z
      · rw [z]; exact d1
      · exact (ih m1 z).2.2.1
    exact ⟨s1, c1, d1, m_impl (m := m) dA (fun m1 h => (ih m1 h).2.2.2)⟩
theorem m_readAll {d : Nat} {σ : mHp} {F : aF} {fl mk : Bool} (hT : T.1 ≤ 40) (h8 : σ.1 48 8 = nI T.1) (hF : mF σ F) (hfl : mk = true → σ.1 48 4 = bI fl) (hf : fOk F) (hI : ∀ i, i < T.1 → σ.1 52 i = T.2 i) (hmk : mk = true → AF T true 0 0 T.1 = none) : mC g l (d + 167) 132 [.ref 48, .int (bI mk)] (SH lk ex) σ (fun r sp σ1 => sp = SH lk ex ∧ rQ T 4 3 0 0 mk F fl σ r σ1) := by
  have ok : mOkP md_X9_readAll := ok_at 132 (by decide) rfl
  refine mC_of (md := md_X9_readAll) rfl (lt_at (by decide)) rfl ?_
  refine mGo_run (n := 400) ok rfl ?_
  refine mGo_side ok rfl (b01 _) ?_
  refine mGo_run (n := 400) ok rfl ?_
  have hS : rS (mWI (mWI (mWI σ 48 10 (bI mk)) 48 7 0) 48 9 (-1)) T 0 none mk F fl := by
    refine ⟨?_, ?_, ?_, ?_, mF_W (mF_W (mF_W hF (by omega)) (by omega)) (by omega), fun z => ?_, hf, fun i hi => ?_, by omega, hT, fun e he => by cases he⟩
    · simp [WI_at]; rfl
    · simp [WI_at, h8]
    · simp [WI_at]; rfl
    · simp [WI_at]
    · simp [WI_at, hfl z]
    · simp [WI_at, hI i hi]
  refine mGo_call ok rfl (by omega) ((m_read T.1).2.2.2 d _ 0 0 mk fl F (by omega) hS hmk) (fun r sp τ3 hq => ?_)
  obtain ⟨rfl, b, k2, flt2, F2, fl2, rfl, p1, p2, p3, p4, p5⟩ := hq
  refine mGo_run (n := 400) ok rfl ?_
  exact mGo_ret ok rfl trivial (⟨rfl, b, k2, flt2, F2, fl2, rfl, (((fR.refl.W (by decide)).W (by decide)).W (by decide)).trans p1, p2, p3, p4, p5⟩)
theorem mF_cut {σ : mHp} {F F1 : aF} (h : fle F F1) (hc : mF σ F1) : mF (mWI σ 48 0 (nI (aN F))) F := by
  refine ⟨by rw [WI_at, if_pos ⟨rfl, rfl⟩], fun j hj => ?_⟩
  obtain ⟨a, b, c⟩ := h.2 j hj
  obtain ⟨x, y, z⟩ := hc.2 j (by have := h.1; omega)
  rw [a] at x
  rw [b] at y
  rw [c] at z
  exact ⟨by rw [WI_at, if_neg (by omega)]; exact x, by rw [WI_at, if_neg (by omega)]; exact y, by rw [WI_at, if_neg (by omega)]; exact z⟩
/-- the whole text without a fault: nothing but the end is left -/
theorem rel_end {k k1 v : Nat} {mk fl fl1 : Bool} {F F1 : aF} (h : rel T 4 3 0 k mk F fl v k1 none F1 fl1) : (k1 < T.1 → AF T true 0 k (T.1 - k) = some k1) ∧ (¬ k1 < T.1 → AF T true 0 k (T.1 - k) = none) := by
  obtain ⟨b1, b2, b3, b4, b5⟩ := h
  refine ⟨fun hk => ?_, fun hk => ?_⟩
  · rw [b3, show T.1 - k1 = (T.1 - (k1 + 1)) + 1 by omega]
    simp only [AF]
    rw [if_neg (fun z => by omega), if_neg (b4 hk)]
  · rw [b3, show T.1 - k1 = 0 by omega]
    simp [AF]
theorem qB_of {k1 v : Nat} {fl1 : Bool} {F F1 : aF} (h : rel T 4 3 0 0 true F false v k1 none F1 fl1) (hk : ¬ k1 < T.1) : qB F (BF T 0 T.1 [] [] F) = if fl1 = true then (-3, F) else (nI v, F1) := by
  obtain ⟨b1, b2, b3, b4, b5⟩ := h
  have := (b5 rfl).2 rfl [] [] trivial
  rw [show T.1 - 0 = T.1 by omega, show T.1 - k1 = 0 by omega] at this
  rw [this]
  cases fl1 with
  | true => rfl
  | false => rfl
set_option maxHeartbeats 1000000 in
theorem y_parse {d : Nat} {σ : mHp} {F : aF} (hT : T.1 ≤ 40) (hI : mI σ T) (hF : mF σ F) (hf : fOk F) : mNR g l (d + 168) 133 [.ref 48] lk ex σ (.int (qPar T F).1) (fun σ1 => fr 48 52 σ σ1 ∧ fm [0, 4, 6, 7, 8, 9, 10] σ σ1 ∧ mF σ1 (qPar T F).2 ∧ mI σ1 (0, T.2)) := by
  have ok : mOkP md_X9_parse := ok_at 133 (by decide) rfl
  refine mC_of (md := md_X9_parse) rfl (lt_at (by decide)) rfl ?_
  have hfr : ∀ {τ : mHp}, fR (mWI (mWI σ 48 8 (nI T.1)) 48 6 0) τ → fr 48 52 σ τ ∧ fm [0, 4, 6, 7, 8, 9, 10] σ τ ∧ mI τ (0, T.2) := fun t => ⟨((fr.refl.WI (by decide) (by decide)).WI (by decide) (by decide)).trans t.1, ((fm.refl.WI (fun _ => by decide)).WI (fun _ => by decide)).trans (t.2.wide (by decide)), by rw [(t.2 6 (by decide)).1, WI_at, if_pos ⟨rfl, rfl⟩]; rfl, fun i hi => by simp at hi⟩
  have h4 := hf.1
  have h40 := hf.2.1
  have ret : ∀ (τ : mHp) (e : Nat) (L1 L2 : Option Value), fR (mWI (mWI σ 48 8 (nI T.1)) 48 6 0) τ → mF τ F → AF T true 0 0 T.1 = some e → τ.1 48 9 = nI e → mGo g l (d + 168) md_X9_parse (SH lk ex).length (mTot (SH lk ex)) (45, [some (.ref 48), L1, L2], [], SH lk ex, τ) (fun r sp σ1 => r = some (.int (qPar T F).1) ∧ sp = SH lk ex ∧ (fr 48 52 σ σ1 ∧ fm [0, 4, 6, 7, 8, 9, 10] σ σ1 ∧ mF σ1 (qPar T F).2 ∧ mI σ1 (0, T.2))) := by
    intro τ e L1 L2 t hF1 hA h9
    have hq : qPar T F = (-1000 - nI e, F) := by unfold qPar; rw [hA]
    have hb := AF_le _ _ _ _ hA
    obtain ⟨t1, t2, t3⟩ := hfr t
    rw [hq]
    refine mGo_run (n := 400) ok rfl ?_
    rw [h9]
    refine mGo_if ok rfl (fun h1 => ?_) (fun h1 => ?_)
    · exact absurd h1 (nI_pos (by omega))
    · refine mGo_run (n := 400) ok rfl ?_
      rw [h9]
      exact mGo_ret ok rfl trivial (⟨rfl, rfl, t1, t2, hF1, t3⟩)
  refine mGo_run (n := 400) ok rfl ?_
  rw [hI.1]
  refine mGo_call ok rfl (by omega) (m_readAll (d := d) (T := T) (mk := false) (fl := false) hT (by simp [WI_at]) (mF_W (mF_W hF (by omega)) (by omega)) (fun z => by cases z) hf (fun i hi => by simp [WI_at, hI.2 i hi]) (fun z => by cases z)) (fun r sp τ1 hq => ?_)
  obtain ⟨rfl, v, k1, flt, F1, fl1, rfl, q1, q2, q3, q4, q5⟩ := hq
  have e1 : F1 = F := q4.2 rfl
  subst e1
  obtain ⟨a1, a2, a3, a4, a5, a6, a7, a8, a9, a10, a11⟩ := id q2
  cases flt with
  | some e =>
    have he := a11 e rfl
    have hA : AF T true 0 0 T.1 = some e := q5
    refine mGo_run (n := 400) ok rfl ?_
    rw [a3]
    refine mGo_if ok rfl (fun h1 => ?_) (fun h1 => ?_)
    · exact ret τ1 e _ none q1 a5 hA a3
    · exact absurd (nI_pos' (by omega)) h1
  | none =>
    obtain ⟨r1, r2⟩ := rel_end q5
    refine mGo_run (n := 400) ok rfl ?_
    rw [a3]
    refine mGo_if ok rfl (fun h1 => ?_) (fun h1 => ?_)
    · exact absurd h1 (by decide)
    · refine mGo_run (n := 400) ok rfl ?_
      rw [a1, a2]
      refine mGo_ifI ok rfl (nI_leI (a := T.1) (b := k1) (by omega) (by omega)) (fun h2 => ?_) (fun h2 => ?_)
      · have hA : AF T true 0 0 T.1 = none := r2 (by omega)
        have hq : qPar T F1 = qB F1 (BF T 0 T.1 [] [] F1) := by unfold qPar; rw [hA]
        refine mGo_run (n := 400) ok rfl ?_
        rw [a3]
        refine mGo_if ok rfl (fun h3 => ?_) (fun h3 => ?_)
        · refine mGo_run (n := 400) ok rfl ?_
          refine mGo_side ok rfl (Or.inl rfl) ?_
          refine mGo_run (n := 400) ok rfl ?_
          rw [a5.1]
          refine mGo_call ok rfl (by omega) (m_readAll (d := d) (T := T) (mk := true) (fl := false) hT (by rw [WI_at, if_neg (by omega)]; exact a2) (mF_W a5 (by omega)) (fun _ => by rw [WI_at, if_pos ⟨rfl, rfl⟩]; rfl) hf (fun i hi => by rw [WI_at, if_neg (by omega)]; exact a8 i hi) (fun _ => hA)) (fun r sp τ2 hq2 => ?_)
          obtain ⟨rfl, v2, k2, flt2, F2, fl2, rfl, p1, p2, p3, p4, p5⟩ := hq2
          cases flt2 with
          | some e => exact absurd (show AF T true 0 0 T.1 = some e from p5) (by rw [hA]; simp)
          | none =>
            obtain ⟨s1, s2⟩ := rel_end p5
            have hk2 : ¬ k2 < T.1 := fun z => absurd (show AF T true 0 0 T.1 = some k2 from s1 z) (by rw [hA]; simp)
            rw [hq, qB_of p5 hk2]
            have tt : fR (mWI (mWI σ 48 8 (nI T.1)) 48 6 0) τ2 := (q1.W (by decide)).trans p1
            obtain ⟨t1, t2, t3⟩ := hfr tt
            refine mGo_run (n := 400) ok rfl ?_
            refine mGo_callR ok rfl (by omega) (m_settled (d := d) (p2.2.2.2.2.2.1 rfl) _ _) (fun τ3 hτ3 => ?_)
            cases fl2 with
            | true =>
              have hτ3 : τ3 = mWI τ2 48 0 (nI (aN F1)) := hτ3
              subst hτ3
              refine mGo_run (n := 400) ok rfl ?_
              exact mGo_ret ok rfl trivial (⟨rfl, rfl, t1.WI (by decide) (by decide), t2.WI (fun _ => by decide), mF_cut p4.1 p2.2.2.2.2.1, by rw [WI_at, if_neg (by omega)]; exact t3.1, fun i hi => by simp at hi⟩)
            | false =>
              have hτ3 : τ3 = τ2 := hτ3
              subst hτ3
              refine mGo_run (n := 400) ok rfl ?_
              exact mGo_ret ok rfl trivial (⟨rfl, rfl, t1, t2, p2.2.2.2.2.1, t3⟩)
        · exact absurd (by decide) h3
      · have hA : AF T true 0 0 T.1 = some k1 := r1 (by omega)
        refine mGo_runS 45 (n := 400) ok rfl ?_
        rw [a1]
        exact ret (mWI τ1 48 9 (nI k1)) k1 _ none (q1.W (by decide)) (mF_W a5 (by omega)) hA (by rw [WI_at, if_pos ⟨rfl, rfl⟩])
end T
