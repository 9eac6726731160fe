/-! the reference's slots -/
def yS (σ : mHp) (S : aSl) : Prop := ∀ k, k < 4 → σ.1 62 k = (S k).1 ∧ ((S k).1 ≠ -1 → σ.1 63 k = nI (S k).2)
theorem mul40 (k : Nat) : (40 : Int32) * nI k = nI (40 * k) := (Int32.ofNat_mul 40 k).symm
theorem isIn_cov {n : Nat} (hn : n ≤ 40) (i : Int32) : (0 ≤ i ∧ i ≤ nI n - 1) ↔ covB n i 1 = true := by
  rw [covB_iff, qCov_iff hn]
  rcases Nat.eq_zero_or_pos n with z | z
  · subst z
    constructor
    · rintro ⟨h1, h2⟩
      exact absurd (Int32.le_trans h1 h2) (by decide)
    · rintro ⟨a, k, -, hk, h⟩
      have : k = 1 := (nI_eq (a := k) (b := 1) (by omega) (by omega)).mp hk.symm
      omega
  · rw [i_le1 z (by omega), i_in (by omega)]
    constructor
    · rintro ⟨j, hj, rfl⟩
      exact ⟨j, 1, rfl, rfl, by omega⟩
    · rintro ⟨a, k, rfl, hk, h⟩
      have : k = 1 := (nI_eq (a := k) (b := 1) (by omega) (by omega)).mp hk.symm
      exact ⟨a, by omega, rfl⟩
theorem cov2 {n : Nat} (hn : n ≤ 40) {i c : Int32} : (0 ≤ i ∧ 0 ≤ c ∧ c ≤ nI n - i) ↔ covB n i c = true := by
  rw [covB_iff, qCov_iff hn]
  constructor
  · rintro ⟨h1, h2, h3⟩
    obtain ⟨a, ha, rfl⟩ := nI_of (x := i) (Int32.not_lt.mpr h1)
    obtain ⟨k, hk, rfl⟩ := nI_of (x := c) (Int32.not_lt.mpr h2)
    refine ⟨a, k, rfl, rfl, ?_⟩
    rw [Int32.le_iff_toInt_le, Int32.toInt_sub, nI_toInt hk, nI_toInt (show n < 2 ^ 31 by omega), nI_toInt ha, Int.bmod_eq_of_le (by omega) (by omega)] at h3
    omega
  · rintro ⟨a, k, rfl, rfl, h⟩
    refine ⟨nI_pos' (by omega), nI_pos' (by omega), ?_⟩
    rw [pk_sub (by omega)]
    exact nI_le (by omega) (by omega)
def yalP (k : Nat) (t z : Int32) (σ σ1 : mHp) : Prop := fr 62 66 σ σ1 ∧ (∀ j, σ1.1 62 j = if j = k then t else σ.1 62 j) ∧ (∀ j, σ1.1 63 j = if j = k then z else σ.1 63 j) ∧ (∀ j, σ1.2.1 64 j = if 40 * k ≤ j ∧ j < 40 * k + 40 then 0 else σ.2.1 64 j) ∧ ∀ j, σ1.2.2 65 j = if 40 * k ≤ j ∧ j < 40 * k + 40 then 0 else σ.2.2 65 j
def ywW (t : Nat) (v : Int64) : Int64 := if t = 0 then v.toInt32.toInt8.toInt32.toInt64 else v
def ywX (t : Nat) (v : Int64) : UInt64 := if t = 2 then FP.f2d (FP.l2f v) else FP.l2d v
def ywP (k t a : Nat) (v : Int64) (σ σ1 : mHp) : Prop := fr 64 66 σ σ1 ∧ (∀ j, σ1.2.1 64 j = if j = 40 * k + a then ywW t v else σ.2.1 64 j) ∧ ∀ j, σ1.2.2 65 j = if j = 40 * k + a then ywX t v else σ.2.2 65 j
def ycP (k k2 a a2 n : Nat) (σ σ1 : mHp) : Prop := fr 64 68 σ σ1 ∧ (∀ x, σ1.2.1 64 x = if 40 * k2 + a2 ≤ x ∧ x < 40 * k2 + a2 + n then σ.2.1 64 (40 * k + a + (x - (40 * k2 + a2))) else σ.2.1 64 x) ∧ ∀ x, σ1.2.2 65 x = if 40 * k2 + a2 ≤ x ∧ x < 40 * k2 + a2 + n then σ.2.2 65 (40 * k + a + (x - (40 * k2 + a2))) else σ.2.2 65 x
theorem fm_hi {lo hi : Nat} {σ σ1 : mHp} (h : fr lo hi σ σ1) (hl : 49 ≤ lo) : fm [] σ σ1 := fm_fr h (Or.inl hl)
section T
variable {g : mG} {l : Launch} {d : Nat} {lk : Nat} {ex : mSh} {σ : mHp} {S : aSl}
theorem m_isSlot (s : Int32) : mNP g l (d + 1) 185 [.int s] lk ex σ (.int (if 0 ≤ s ∧ s < 4 then 1 else 0)) := by
  have ok : mOkP md_X9_isSlot := ok_at 185 (by decide) rfl
  refine mC_of (md := md_X9_isSlot) rfl (lt_at (by decide)) rfl ?_
  refine mGo_run (n := 400) ok rfl ?_
  refine mGo_callP ok rfl (by omega) (m_isIn (d := d) s 0 3) ?_
  refine mGo_run (n := 400) ok rfl ?_
  have e : (if 0 ≤ s ∧ s ≤ 3 then (1 : Int32) else 0) = if 0 ≤ s ∧ s < 4 then 1 else 0 := by
    have h : s ≤ 3 ↔ s < 4 := i_le1 (n := 4) (by omega) (by omega)
    simp only [h]
  rw [e]
  exact mGo_ret ok rfl (b01 _) (⟨rfl, rfl, rfl⟩)
theorem y_allocate (s t z : Int32) : mNR g l (d + 2) 186 [.ref 48, .int s, .int t, .int z] lk ex σ (.int (qAl s t z)) (fun σ1 => (∃ k, k < 4 ∧ s = nI k ∧ (0 ≤ t ∧ t ≤ 3) ∧ z ≤ 40 ∧ 0 ≤ z ∧ yalP k t z σ σ1) ∨ (¬ (((0 ≤ s ∧ s < 4) ∧ (0 ≤ t ∧ t ≤ 3) ∧ z ≤ 40) ∧ 0 ≤ z) ∧ σ1 = σ)) := by
  have ok : mOkP md_X9_allocate := ok_at 186 (by decide) rfl
  refine mC_of (md := md_X9_allocate) rfl (lt_at (by decide)) rfl ?_
  unfold qAl
  have bad : ¬ ((0 ≤ s ∧ s < 4) ∧ (0 ≤ t ∧ t ≤ 3) ∧ z ≤ 40) → mGo g l (d + 2) md_X9_allocate (SH lk ex).length (mTot (SH lk ex)) (22, [some (.ref 48), some (.int s), some (.int t), some (.int z), none], [], SH lk ex, σ) (fun r sp σ1 => r = some (.int (if (0 ≤ s ∧ s < 4) ∧ (0 ≤ t ∧ t ≤ 3) ∧ z ≤ 40 then (if z < 0 then -14 else z) else -1)) ∧ sp = SH lk ex ∧ ((∃ k, k < 4 ∧ s = nI k ∧ (0 ≤ t ∧ t ≤ 3) ∧ z ≤ 40 ∧ 0 ≤ z ∧ yalP k t z σ σ1) ∨ (¬ (((0 ≤ s ∧ s < 4) ∧ (0 ≤ t ∧ t ≤ 3) ∧ z ≤ 40) ∧ 0 ≤ z) ∧ σ1 = σ))) := by
    intro hb
    rw [if_neg hb]
    refine mGo_run (n := 400) ok rfl ?_
    exact mGo_ret ok rfl trivial (⟨rfl, rfl, Or.inr ⟨fun y => hb y.1, rfl⟩⟩)
  refine mGo_run (n := 400) ok rfl ?_
  refine mGo_callP ok rfl (by omega) (m_isSlot (d := d) s) ?_
  by_cases hs : 0 ≤ s ∧ s < 4
  · rw [if_pos hs]
    refine mGo_if ok rfl (fun h1 => ?_) (fun h1 => ?_)
    · exact absurd h1 (by decide)
    · refine mGo_run (n := 400) ok rfl ?_
      refine mGo_callP ok rfl (by omega) (m_isIn (d := d) t 0 3) ?_
      by_cases ht : 0 ≤ t ∧ t ≤ 3
      · rw [if_pos ht]
        refine mGo_if ok rfl (fun h2 => ?_) (fun h2 => ?_)
        · exact absurd h2 (by decide)
        · refine mGo_run (n := 400) ok rfl ?_
          refine mGo_if ok rfl (fun h3 => ?_) (fun h3 => ?_)
          · obtain ⟨k, hk, rfl⟩ := sl_in.mp hs
            have h3 : z ≤ 40 := h3
            rw [if_pos ⟨hs, ht, h3⟩]
            refine mGo_run (n := 400) ok rfl ?_
            refine mGo_if ok rfl (fun h4 => ?_) (fun h4 => ?_)
            · have h4 : 0 ≤ z := h4
              rw [if_neg (Int32.not_lt.mpr h4)]
              refine mGo_run (n := 400) ok rfl ?_
              refine mGo_side ok rfl (nI_in (by omega) (by omega)) ?_
              rw [nI_clamp (by omega)]
              refine mGo_run (n := 400) ok rfl ?_
              refine mGo_side ok rfl (nI_in (by omega) (by omega)) ?_
              rw [nI_clamp (by omega)]
              refine mGo_runS 48 (n := 400) ok rfl ?_
              have loop : ∀ m i, i + m = 40 → ∀ τ : mHp, fr 62 66 σ τ → (∀ j, τ.1 62 j = if j = k then t else σ.1 62 j) → (∀ j, τ.1 63 j = if j = k then z else σ.1 63 j) → (∀ j, τ.2.1 64 j = if 40 * k ≤ j ∧ j < 40 * k + i then 0 else σ.2.1 64 j) → (∀ j, τ.2.2 65 j = if 40 * k ≤ j ∧ j < 40 * k + i then 0 else σ.2.2 65 j) → mGo g l (d + 2) md_X9_allocate (SH lk ex).length (mTot (SH lk ex)) (48, [some (.ref 48), some (.int (nI k)), some (.int t), some (.int z), some (.int (nI i))], [], SH lk ex, τ) (fun r sp σ1 => r = some (.int z) ∧ sp = SH lk ex ∧ ((∃ k', k' < 4 ∧ nI k = nI k' ∧ (0 ≤ t ∧ t ≤ 3) ∧ z ≤ 40 ∧ 0 ≤ z ∧ yalP k' t z σ σ1) ∨ (¬ (((0 ≤ nI k ∧ nI k < 4) ∧ (0 ≤ t ∧ t ≤ 3) ∧ z ≤ 40) ∧ 0 ≤ z) ∧ σ1 = σ))) := by
                intro m
                induction m with
                | zero =>
                  intro i hi τ t1 t2 t3 t4 t5
                  have e : i = 40 := by omega
                  subst e
                  refine mGo_run (n := 400) ok rfl ?_
                  refine mGo_ifI ok rfl (nI_leI (a := 40) (b := 40) (by omega) (by omega)) (fun h5 => ?_) (fun h5 => ?_)
                  · refine mGo_run (n := 400) ok rfl ?_
                    exact mGo_ret ok rfl trivial (⟨rfl, rfl, Or.inl ⟨k, hk, rfl, ht, h3, h4, t1, t2, t3, t4, t5⟩⟩)
                  · omega
                | succ m ih =>
                  intro i hi τ t1 t2 t3 t4 t5
                  refine mGo_run (n := 400) ok rfl ?_
                  refine mGo_ifI ok rfl (nI_leI (a := 40) (b := i) (by omega) (by omega)) (fun h5 => ?_) (fun h5 => ?_)
                  · omega
                  · refine mGo_run (n := 400) ok rfl ?_
                    rw [mul40, nI_add]
                    refine mGo_side ok rfl (nI_in (by omega) (by omega)) ?_
                    rw [nI_clamp (by omega)]
                    refine mGo_run (n := 400) ok rfl ?_
                    rw [mul40, nI_add]
                    refine mGo_side ok rfl (nI_in (by omega) (by omega)) ?_
                    rw [nI_clamp (by omega)]
                    refine mGo_runS 48 (n := 400) ok rfl ?_
                    rw [nI_1]
                    refine ih (i + 1) (by omega) _ ((t1.WL (by omega) (by omega)).WD (by omega) (by omega)) t2 t3 (fun j => ?_) (fun j => ?_)
                    · show (mWL τ 64 (40 * k + i) 0).2.1 64 j = _
                      rw [WL_at, t4]
                      by_cases y : j = 40 * k + i
                      · rw [if_pos ⟨rfl, y⟩, if_pos (by omega)]
                      · rw [if_neg (fun w => y w.2)]
                        by_cases y2 : 40 * k ≤ j ∧ j < 40 * k + i
                        · rw [if_pos y2, if_pos (by omega)]
                        · rw [if_neg y2, if_neg (by omega)]
                    · rw [WD_at]
                      by_cases y : j = 40 * k + i
                      · rw [if_pos ⟨rfl, y⟩, if_pos (by omega)]; rfl
                      · rw [if_neg (fun w => y w.2)]
                        show τ.2.2 65 j = _
                        rw [t5]
                        by_cases y2 : 40 * k ≤ j ∧ j < 40 * k + i
                        · rw [if_pos y2, if_pos (by omega)]
                        · rw [if_neg y2, if_neg (by omega)]
              refine loop 40 0 (by omega) _ ((fr.refl.WI (by omega) (by omega)).WI (by omega) (by omega)) (fun j => ?_) (fun j => ?_) (fun j => ?_) (fun j => ?_)
              · rw [WI_at, if_neg (by omega), WI_at]
                by_cases y : j = k
                · rw [if_pos ⟨rfl, y⟩, if_pos y]
                · rw [if_neg (fun w => y w.2), if_neg y]
              · rw [WI_at]
                by_cases y : j = k
                · rw [if_pos ⟨rfl, y⟩, if_pos y]
                · rw [if_neg (fun w => y w.2), if_neg y, WI_at, if_neg (by omega)]
              · rw [if_neg (by omega)]; rfl
              · rw [if_neg (by omega)]; rfl
            · have h4 : ¬ 0 ≤ z := h4
              rw [if_pos (Int32.not_le.mp h4)]
              refine mGo_run (n := 400) ok rfl ?_
              exact mGo_ret ok rfl trivial (⟨rfl, rfl, Or.inr ⟨fun y => h4 y.2, rfl⟩⟩)
          · exact bad (fun y => h3 y.2.2)
      · rw [if_neg ht]
        refine mGo_if ok rfl (fun h2 => ?_) (fun h2 => ?_)
        · exact bad (fun y => ht y.2.1)
        · exact absurd rfl h2
  · rw [if_neg hs]
    refine mGo_if ok rfl (fun h1 => ?_) (fun h1 => ?_)
    · exact bad (fun y => hs y.1)
    · exact absurd rfl h1
theorem y_release (hO : sOk S) (hY : yS σ S) (s : Int32) : mNR g l (d + 2) 187 [.ref 48, .int s] lk ex σ (.int (qRel S s)) (fun σ1 => (∃ k, k < 4 ∧ s = nI k ∧ σ1 = mWI σ 62 k (-1)) ∨ (¬ (0 ≤ s ∧ s < 4) ∧ σ1 = σ)) := by
  have ok : mOkP md_X9_release := ok_at 187 (by decide) rfl
  refine mC_of (md := md_X9_release) rfl (lt_at (by decide)) rfl ?_
  unfold qRel
  refine mGo_run (n := 400) ok rfl ?_
  refine mGo_callP ok rfl (by omega) (m_isSlot (d := d) s) ?_
  by_cases hs : 0 ≤ s ∧ s < 4
  · rw [if_pos hs, if_pos hs]
    obtain ⟨k, hk, rfl⟩ := sl_in.mp hs
    rw [nI_clamp (by omega)]
    have y1 := (hY k hk).1
    refine mGo_if ok rfl (fun h1 => ?_) (fun h1 => ?_)
    · exact absurd h1 (by decide)
    · refine mGo_run (n := 400) ok rfl ?_
      refine mGo_side ok rfl (nI_in (by omega) (by omega)) ?_
      rw [nI_clamp (n := k) (by omega), y1]
      by_cases he : (S k).1 = -1
      · rw [he, if_pos rfl]
        refine mGo_if ok rfl (fun h2 => ?_) (fun h2 => ?_)
        · exact absurd h2 (by decide)
        · refine mGo_run (n := 400) ok rfl ?_
          refine mGo_side ok rfl (nI_in (by omega) (by omega)) ?_
          rw [nI_clamp (by omega)]
          refine mGo_run (n := 400) ok rfl ?_
          exact mGo_ret ok rfl trivial (⟨rfl, rfl, Or.inl ⟨k, hk, rfl, rfl⟩⟩)
      · obtain ⟨t, ht, hty⟩ := (hO k hk).2.resolve_left (fun z => he z.1)
        rw [if_neg he, hty]
        refine mGo_if ok rfl (fun h2 => ?_) (fun h2 => ?_)
        · refine mGo_run (n := 400) ok rfl ?_
          refine mGo_side ok rfl (nI_in (by omega) (by omega)) ?_
          rw [nI_clamp (by omega)]
          refine mGo_run (n := 400) ok rfl ?_
          exact mGo_ret ok rfl trivial (⟨rfl, rfl, Or.inl ⟨k, hk, rfl, rfl⟩⟩)
        · exact absurd (nI_pos' (by omega)) h2
  · rw [if_neg hs, if_neg hs]
    refine mGo_if ok rfl (fun h1 => ?_) (fun h1 => ?_)
    · refine mGo_run (n := 400) ok rfl ?_
      exact mGo_ret ok rfl trivial (⟨rfl, rfl, Or.inr ⟨hs, rfl⟩⟩)
    · exact absurd rfl h1
theorem y_putElement (hO : sOk S) (hY : yS σ S) (s i : Int32) (v : Int64) : mNR g l (d + 2) 188 [.ref 48, .int s, .int i, .long v] lk ex σ (.int (qPut S s i)) (fun σ1 => (∃ k t a, k < 4 ∧ s = nI k ∧ t < 4 ∧ (S k).1 = nI t ∧ i = nI a ∧ a < (S k).2 ∧ ywP k t a v σ σ1) ∨ (qPut S s i ≠ 1 ∧ σ1 = σ)) := by
  have ok : mOkP md_X9_putElement := ok_at 188 (by decide) rfl
  refine mC_of (md := md_X9_putElement) rfl (lt_at (by decide)) rfl ?_
  unfold qPut
  refine mGo_run (n := 400) ok rfl ?_
  refine mGo_callP ok rfl (by omega) (m_isSlot (d := d) s) ?_
  by_cases hs : 0 ≤ s ∧ s < 4
  · rw [if_pos hs, if_pos hs]
    obtain ⟨k, hk, rfl⟩ := sl_in.mp hs
    rw [nI_clamp (by omega)]
    obtain ⟨y1, y2⟩ := hY k hk
    obtain ⟨o1, o2⟩ := hO k hk
    refine mGo_if ok rfl (fun h1 => ?_) (fun h1 => ?_)
    · exact absurd h1 (by decide)
    · refine mGo_run (n := 400) ok rfl ?_
      refine mGo_side ok rfl (nI_in (by omega) (by omega)) ?_
      rw [nI_clamp (n := k) (by omega), y1]
      by_cases he : (S k).1 = -1
      · rw [if_pos he, he]
        refine mGo_if ok rfl (fun h2 => ?_) (fun h2 => ?_)
        · exact absurd h2 (by decide)
        · refine mGo_run (n := 400) ok rfl ?_
          exact mGo_ret ok rfl trivial (⟨rfl, rfl, Or.inr ⟨by decide, rfl⟩⟩)
      · obtain ⟨t, ht, hty⟩ := o2.resolve_left (fun z => he z.1)
        have y2 := y2 he
        rw [if_neg he]
        refine mGo_if ok rfl (fun h2 => ?_) (fun h2 => ?_)
        · refine mGo_run (n := 400) ok rfl ?_
          refine mGo_side ok rfl (nI_in (by omega) (by omega)) ?_
          rw [nI_clamp (n := k) (by omega), y2]
          refine mGo_run (n := 400) ok rfl ?_
          refine mGo_callP ok rfl (by omega) (m_isIn (d := d) i 0 (nI (S k).2 - 1)) ?_
          cases hc : covB (S k).2 i 1 with
          | false =>
            rw [if_neg (fun y => by rw [(isIn_cov o1 i).mp y] at hc; cases hc)]
            refine mGo_if ok rfl (fun h3 => ?_) (fun h3 => ?_)
            · refine mGo_run (n := 400) ok rfl ?_
              exact mGo_ret ok rfl trivial (⟨rfl, rfl, Or.inr ⟨by decide, rfl⟩⟩)
            · exact absurd rfl h3
          | true =>
            rw [if_pos ((isIn_cov o1 i).mpr hc)]
            obtain ⟨a, c, rfl, hc1, hac⟩ := (qCov_iff o1).mp (covB_iff.mp hc)
            have : c = 1 := (nI_eq (a := c) (b := 1) (by omega) (by omega)).mp hc1.symm
            have fin : ∀ (w : Int64), w = ywW t v → mGo g l (d + 2) md_X9_putElement (SH lk ex).length (mTot (SH lk ex)) (67, [some (.ref 48), some (.int (nI k)), some (.int (nI a)), some (.long v), none], [.long w, .int (nI (40 * k + a)), .ref 64], SH lk ex, σ) (fun r sp σ1 => r = some (.int 1) ∧ sp = SH lk ex ∧ ((∃ k' t a', k' < 4 ∧ nI k = nI k' ∧ t < 4 ∧ (S k').1 = nI t ∧ nI a = nI a' ∧ a' < (S k').2 ∧ ywP k' t a' v σ σ1) ∨ ((1 : Int32) ≠ 1 ∧ σ1 = σ))) := by
              intro w hw
              subst hw
              refine mGo_side ok rfl (nI_in (by omega) (by omega)) ?_
              rw [nI_clamp (by omega)]
              refine mGo_run (n := 400) ok rfl ?_
              rw [mul40, nI_add]
              refine mGo_side ok rfl (nI_in (by omega) (by omega)) ?_
              rw [nI_clamp (n := k) (by omega), (show (mWL σ 64 (40 * k + a) (ywW t v)).1 62 k = (S k).1 from y1)]
              refine mGo_run (n := 400) ok rfl ?_
              rw [hty]
              have post : ywP k t a v σ (mWD (mWL σ 64 (40 * k + a) (ywW t v)) 65 (40 * k + a) (ywX t v)) := by
                refine ⟨(fr.refl.WL (by omega) (by omega)).WD (by omega) (by omega), fun j => ?_, fun j => ?_⟩
                · show (mWL σ 64 (40 * k + a) (ywW t v)).2.1 64 j = _
                  rw [WL_at]
                  by_cases y : j = 40 * k + a
                  · rw [if_pos ⟨rfl, y⟩, if_pos y]
                  · rw [if_neg (fun w => y w.2), if_neg y]
                · rw [WD_at]
                  by_cases y : j = 40 * k + a
                  · rw [if_pos ⟨rfl, y⟩, if_pos y]
                  · rw [if_neg (fun w => y w.2), if_neg y]; rfl
              refine mGo_ifI ok rfl (nI_eq (a := t) (b := 2) (by omega) (by omega)) (fun h5 => ?_) (fun h5 => ?_)
              · have e : ywX t v = FP.f2d (FP.l2f v) := by unfold ywX; rw [if_pos h5]
                rw [e] at post
                refine mGo_run (n := 400) ok rfl ?_
                refine mGo_side ok rfl (n64_fin (l2f_ok v).2.1) ?_
                refine mGo_run (n := 400) ok rfl ?_
                refine mGo_side ok rfl (nI_in (by omega) (by omega)) ?_
                rw [nI_clamp (by omega)]
                refine mGo_run (n := 400) ok rfl ?_
                exact mGo_ret ok rfl trivial (⟨rfl, rfl, Or.inl ⟨k, t, a, hk, rfl, ht, hty, rfl, by omega, post⟩⟩)
              · have e : ywX t v = FP.l2d v := by unfold ywX; rw [if_neg h5]
                rw [e] at post
                refine mGo_run (n := 400) ok rfl ?_
                refine mGo_side ok rfl (nI_in (by omega) (by omega)) ?_
                rw [nI_clamp (by omega)]
                refine mGo_run (n := 400) ok rfl ?_
                exact mGo_ret ok rfl trivial (⟨rfl, rfl, Or.inl ⟨k, t, a, hk, rfl, ht, hty, rfl, by omega, post⟩⟩)
            refine mGo_if ok rfl (fun h3 => ?_) (fun h3 => ?_)
            · exact absurd h3 (by decide)
            · refine mGo_run (n := 400) ok rfl ?_
              rw [mul40, nI_add]
              refine mGo_side ok rfl (nI_in (by omega) (by omega)) ?_
              rw [nI_clamp (n := k) (by omega), y1]
              rw [hty]
              refine mGo_ifI ok rfl (nI_eq (a := t) (b := 0) (by omega) (by omega)) (fun h4 => ?_) (fun h4 => ?_)
              · refine mGo_run (n := 400) ok rfl ?_
                exact fin _ (by unfold ywW; rw [if_pos h4])
              · refine mGo_run (n := 400) ok rfl ?_
                exact fin _ (by unfold ywW; rw [if_neg h4])
        · rw [hty] at h2
          exact absurd (nI_pos' (by omega)) h2
  · rw [if_neg hs, if_neg hs]
    refine mGo_if ok rfl (fun h1 => ?_) (fun h1 => ?_)
    · refine mGo_run (n := 400) ok rfl ?_
      exact mGo_ret ok rfl trivial (⟨rfl, rfl, Or.inr ⟨by decide, rfl⟩⟩)
    · exact absurd rfl h1
theorem y_element (hO : sOk S) (hY : yS σ S) (s i : Int32) : mNP g l (d + 2) 189 [.ref 48, .int s, .int i] lk ex σ (.long (if (0 ≤ s ∧ s < 4) ∧ (S s.toNatClampNeg).1 ≠ -1 ∧ covB (S s.toNatClampNeg).2 i 1 = true then (if (S s.toNatClampNeg).1.toNatClampNeg < 2 then σ.2.1 64 (40 * s.toNatClampNeg + i.toNatClampNeg) else FP.d2l (σ.2.2 65 (40 * s.toNatClampNeg + i.toNatClampNeg))) else -9223372036854775808)) := by
  have ok : mOkP md_X9_element := ok_at 189 (by decide) rfl
  refine mC_of (md := md_X9_element) rfl (lt_at (by decide)) rfl ?_
  have bad : ¬ ((0 ≤ s ∧ s < 4) ∧ (S s.toNatClampNeg).1 ≠ -1 ∧ covB (S s.toNatClampNeg).2 i 1 = true) → mGo g l (d + 2) md_X9_element (SH lk ex).length (mTot (SH lk ex)) (32, [some (.ref 48), some (.int s), some (.int i)], [], SH lk ex, σ) (fun r sp σ1 => r = some (.long (if (0 ≤ s ∧ s < 4) ∧ (S s.toNatClampNeg).1 ≠ -1 ∧ covB (S s.toNatClampNeg).2 i 1 = true then (if (S s.toNatClampNeg).1.toNatClampNeg < 2 then σ.2.1 64 (40 * s.toNatClampNeg + i.toNatClampNeg) else FP.d2l (σ.2.2 65 (40 * s.toNatClampNeg + i.toNatClampNeg))) else -9223372036854775808)) ∧ sp = SH lk ex ∧ σ1 = σ) := by
    intro hb
    rw [if_neg hb]
    refine mGo_run (n := 400) ok rfl ?_
    exact mGo_ret ok rfl trivial (⟨rfl, rfl, rfl⟩)
  refine mGo_run (n := 400) ok rfl ?_
  refine mGo_callP ok rfl (by omega) (m_isSlot (d := d) s) ?_
  by_cases hs : 0 ≤ s ∧ s < 4
  · rw [if_pos hs]
    obtain ⟨k, hk, rfl⟩ := sl_in.mp hs
    rw [nI_clamp (by omega)] at bad ⊢
    obtain ⟨y1, y2⟩ := hY k hk
    obtain ⟨o1, o2⟩ := hO k hk
    refine mGo_if ok rfl (fun h1 => ?_) (fun h1 => ?_)
    · exact absurd h1 (by decide)
    · refine mGo_run (n := 400) ok rfl ?_
      refine mGo_side ok rfl (nI_in (by omega) (by omega)) ?_
      rw [nI_clamp (n := k) (by omega), y1]
      refine mGo_if ok rfl (fun h2 => ?_) (fun h2 => ?_)
      · refine bad (fun z => ?_)
        obtain ⟨t, ht, hty⟩ := o2.resolve_left (fun w => z.2.1 w.1)
        rw [hty] at h2
        exact nI_pos (by omega) h2
      · have he : (S k).1 ≠ -1 := fun z => h2 (by rw [z]; decide)
        obtain ⟨t, ht, hty⟩ := o2.resolve_left (fun z => he z.1)
        have y2 := y2 he
        refine mGo_run (n := 400) ok rfl ?_
        refine mGo_side ok rfl (nI_in (by omega) (by omega)) ?_
        rw [nI_clamp (n := k) (by omega), y2]
        refine mGo_run (n := 400) ok rfl ?_
        refine mGo_callP ok rfl (by omega) (m_isIn (d := d) i 0 (nI (S k).2 - 1)) ?_
        cases hc : covB (S k).2 i 1 with
        | false =>
          rw [if_neg (fun y => by rw [(isIn_cov o1 i).mp y] at hc; cases hc)]
          refine mGo_if ok rfl (fun h3 => ?_) (fun h3 => ?_)
          · have := bad (fun z => by rw [hc] at z; cases z.2.2)
            rw [hc] at this
            exact this
          · exact absurd rfl h3
        | true =>
          rw [if_pos ((isIn_cov o1 i).mpr hc), if_pos ⟨hs, he, rfl⟩]
          obtain ⟨a, c, rfl, hc1, hac⟩ := (qCov_iff o1).mp (covB_iff.mp hc)
          have : c = 1 := (nI_eq (a := c) (b := 1) (by omega) (by omega)).mp hc1.symm
          refine mGo_if ok rfl (fun h3 => ?_) (fun h3 => ?_)
          · exact absurd h3 (by decide)
          · refine mGo_run (n := 400) ok rfl ?_
            refine mGo_side ok rfl (nI_in (by omega) (by omega)) ?_
            rw [nI_clamp (n := k) (by omega), y1]
            refine mGo_run (n := 400) ok rfl ?_
            rw [hty, nI_clamp (show t < 2 ^ 31 by omega), nI_clamp (show a < 2 ^ 31 by omega)]
            refine mGo_ifI ok rfl (nI_leI (a := 2) (b := t) (by omega) (by omega)) (fun h4 => ?_) (fun h4 => ?_)
            · rw [if_neg (by omega)]
              refine mGo_run (n := 400) ok rfl ?_
              rw [mul40, nI_add]
              refine mGo_side ok rfl (nI_in (by omega) (by omega)) ?_
              rw [nI_clamp (by omega)]
              refine mGo_run (n := 400) ok rfl ?_
              exact mGo_ret ok rfl trivial (⟨rfl, rfl, rfl⟩)
            · rw [if_pos (by omega)]
              refine mGo_run (n := 400) ok rfl ?_
              rw [mul40, nI_add]
              refine mGo_side ok rfl (nI_in (by omega) (by omega)) ?_
              rw [nI_clamp (by omega)]
              refine mGo_run (n := 400) ok rfl ?_
              exact mGo_ret ok rfl trivial (⟨rfl, rfl, rfl⟩)
  · rw [if_neg hs]
    refine mGo_if ok rfl (fun h1 => ?_) (fun h1 => ?_)
    · exact bad (fun z => hs z.1)
    · exact absurd rfl h1
end T
