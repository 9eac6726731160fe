/-! the reference copies elements -/
section T
variable {g : mG} {l : Launch} {d : Nat} {lk : Nat} {ex : mSh} {σ : mHp} {S : aSl}
set_option maxHeartbeats 1000000 in
theorem m_cp {k k2 a a2 n : Nat} (hk : k < 4) (hk2 : k2 < 4) (ha : a + n ≤ 40) (ha2 : a2 + n ≤ 40) (L6 : Option Value) {Q : Option Value → mSh → mHp → Prop} (hQ : ∀ σ1, ycP k k2 a a2 n σ σ1 → Q (some (.int (nI n))) (SH lk ex) σ1) {x6 : Int32} (hL6 : L6 = some (.int x6)) (ok : mOkP md_X9_copyElements) : mGo g l (d + 2) md_X9_copyElements (SH lk ex).length (mTot (SH lk ex)) (111, [some (.ref 48), some (.int (nI k)), some (.int (nI a)), some (.int (nI k2)), some (.int (nI a2)), some (.int (nI n)), L6, none], [], SH lk ex, σ) Q := by
  subst hL6
  refine mGo_runS 114 (n := 400) ok rfl ?_
  have second : ∀ m i, i + m = n → ∀ τ : mHp, fr 64 68 σ τ → (∀ x, x < n → τ.2.1 66 x = σ.2.1 64 (40 * k + a + x)) → (∀ x, x < n → τ.2.2 67 x = σ.2.2 65 (40 * k + a + x)) → (∀ x, τ.2.1 64 x = if 40 * k2 + a2 ≤ x ∧ x < 40 * k2 + a2 + i then σ.2.1 64 (40 * k + a + (x - (40 * k2 + a2))) else σ.2.1 64 x) → (∀ x, τ.2.2 65 x = if 40 * k2 + a2 ≤ x ∧ x < 40 * k2 + a2 + i then σ.2.2 65 (40 * k + a + (x - (40 * k2 + a2))) else σ.2.2 65 x) → mGo g l (d + 2) md_X9_copyElements (SH lk ex).length (mTot (SH lk ex)) (172, [some (.ref 48), some (.int (nI k)), some (.int (nI a)), some (.int (nI k2)), some (.int (nI a2)), some (.int (nI n)), some (.int x6), some (.int (nI i))], [], SH lk ex, τ) Q := by
    intro m
    induction m with
    | zero =>
      intro i hi τ t1 t2 t3 t4 t5
      have e : i = n := by omega
      subst e
      refine mGo_run (n := 400) ok rfl ?_
      refine mGo_ifI ok rfl (nI_leI (a := i) (b := i) (by omega) (by omega)) (fun h1 => ?_) (fun h1 => ?_)
      · refine mGo_run (n := 400) ok rfl ?_
        exact mGo_ret ok rfl trivial (hQ τ ⟨t1, t4, t5⟩)
      · omega
    | succ m ih =>
      intro i hi τ t1 t2 t3 t4 t5
      refine mGo_run (n := 400) ok rfl ?_
      refine mGo_ifI ok rfl (nI_leI (a := n) (b := i) (by omega) (by omega)) (fun h1 => ?_) (fun h1 => ?_)
      · omega
      · refine mGo_run (n := 400) ok rfl ?_
        rw [mul40, nI_add, nI_add]
        refine mGo_side ok rfl (nI_in (by omega) (by omega)) ?_
        rw [nI_clamp (n := i) (by omega), t2 i (by omega)]
        refine mGo_side ok rfl (nI_in (by omega) (by omega)) ?_
        rw [nI_clamp (by omega)]
        refine mGo_run (n := 400) ok rfl ?_
        rw [mul40, nI_add, nI_add]
        refine mGo_side ok rfl (nI_in (by omega) (by omega)) ?_
        rw [nI_clamp (n := i) (by omega), show (mWL τ 64 (40 * k2 + a2 + i) (σ.2.1 64 (40 * k + a + i))).2.2 67 i = σ.2.2 65 (40 * k + a + i) from t3 i (by omega)]
        refine mGo_side ok rfl (nI_in (by omega) (by omega)) ?_
        rw [nI_clamp (by omega)]
        refine mGo_runS 172 (n := 400) ok rfl ?_
        rw [nI_1]
        refine ih (i + 1) (by omega) _ ((t1.WL (by omega) (by omega)).WD (by omega) (by omega)) (fun x hx => ?_) (fun x hx => ?_) (fun x => ?_) (fun x => ?_)
        · show (mWL τ 64 (40 * k2 + a2 + i) (σ.2.1 64 (40 * k + a + i))).2.1 66 x = _
          rw [WL_at, if_neg (by omega)]
          exact t2 x hx
        · rw [WD_at, if_neg (by omega)]
          exact t3 x hx
        · show (mWL τ 64 (40 * k2 + a2 + i) (σ.2.1 64 (40 * k + a + i))).2.1 64 x = _
          rw [WL_at, t4]
          by_cases y : x = 40 * k2 + a2 + i
          · rw [if_pos ⟨rfl, y⟩, if_pos (by omega), y, show 40 * k2 + a2 + i - (40 * k2 + a2) = i by omega]
          · rw [if_neg (fun w => y w.2)]
            by_cases y2 : 40 * k2 + a2 ≤ x ∧ x < 40 * k2 + a2 + i
            · rw [if_pos y2, if_pos (by omega)]
            · rw [if_neg y2, if_neg (by omega)]
        · rw [WD_at]
          by_cases y : x = 40 * k2 + a2 + i
          · rw [if_pos ⟨rfl, y⟩, if_pos (by omega), y, show 40 * k2 + a2 + i - (40 * k2 + a2) = i by omega]
          · rw [if_neg (fun w => y w.2)]
            show τ.2.2 65 x = _
            rw [t5]
            by_cases y2 : 40 * k2 + a2 ≤ x ∧ x < 40 * k2 + a2 + i
            · rw [if_pos y2, if_pos (by omega)]
            · rw [if_neg y2, if_neg (by omega)]
  have first : ∀ m i, i + m = n → ∀ τ : mHp, fr 66 68 σ τ → (∀ x, x < i → τ.2.1 66 x = σ.2.1 64 (40 * k + a + x)) → (∀ x, x < i → τ.2.2 67 x = σ.2.2 65 (40 * k + a + x)) → mGo g l (d + 2) md_X9_copyElements (SH lk ex).length (mTot (SH lk ex)) (114, [some (.ref 48), some (.int (nI k)), some (.int (nI a)), some (.int (nI k2)), some (.int (nI a2)), some (.int (nI n)), some (.int x6), some (.int (nI i))], [], SH lk ex, τ) Q := by
    intro m
    induction m with
    | zero =>
      intro i hi τ t1 t2 t3
      have e : i = n := by omega
      subst e
      refine mGo_run (n := 400) ok rfl ?_
      refine mGo_ifI ok rfl (nI_leI (a := i) (b := i) (by omega) (by omega)) (fun h1 => ?_) (fun h1 => ?_)
      · refine mGo_runS 172 (n := 400) ok rfl ?_
        refine second i 0 (by omega) τ (t1.wide (by omega) (by omega)) t2 t3 (fun x => ?_) (fun x => ?_)
        · rw [if_neg (by omega), (t1 64 (by omega)).2.1]
        · rw [if_neg (by omega), (t1 65 (by omega)).2.2]
      · omega
    | succ m ih =>
      intro i hi τ t1 t2 t3
      have e64 := (t1 64 (by omega)).2.1
      have e65 := (t1 65 (by omega)).2.2
      refine mGo_run (n := 400) ok rfl ?_
      refine mGo_ifI ok rfl (nI_leI (a := n) (b := i) (by omega) (by omega)) (fun h1 => ?_) (fun h1 => ?_)
      · omega
      · refine mGo_run (n := 400) ok rfl ?_
        rw [mul40, nI_add, nI_add]
        refine mGo_side ok rfl (nI_in (by omega) (by omega)) ?_
        rw [nI_clamp (n := 40 * k + a + i) (by omega), e64]
        refine mGo_side ok rfl (nI_in (by omega) (by omega)) ?_
        rw [nI_clamp (by omega)]
        refine mGo_run (n := 400) ok rfl ?_
        rw [mul40, nI_add, nI_add]
        refine mGo_side ok rfl (nI_in (by omega) (by omega)) ?_
        rw [nI_clamp (n := 40 * k + a + i) (by omega), show (mWL τ 66 i (σ.2.1 64 (40 * k + a + i))).2.2 65 = σ.2.2 65 from e65]
        refine mGo_side ok rfl (nI_in (by omega) (by omega)) ?_
        rw [nI_clamp (by omega)]
        refine mGo_runS 114 (n := 400) ok rfl ?_
        rw [nI_1]
        refine ih (i + 1) (by omega) _ ((t1.WL (by omega) (by omega)).WD (by omega) (by omega)) (fun x hx => ?_) (fun x hx => ?_)
        · show (mWL τ 66 i (σ.2.1 64 (40 * k + a + i))).2.1 66 x = _
          rw [WL_at]
          by_cases y : x = i
          · rw [if_pos ⟨rfl, y⟩, y]
          · rw [if_neg (fun w => y w.2)]; exact t2 x (by omega)
        · rw [WD_at]
          by_cases y : x = i
          · rw [if_pos ⟨rfl, y⟩, y]
          · rw [if_neg (fun w => y w.2)]; exact t3 x (by omega)
  exact first n 0 (by omega) σ fr.refl (fun x hx => by omega) (fun x hx => by omega)
set_option maxHeartbeats 1000000 in
theorem y_copyElements (hO : sOk S) (hY : yS σ S) (s i u j c : Int32) : mNR g l (d + 2) 191 [.ref 48, .int s, .int i, .int u, .int j, .int c] lk ex σ (.int (qCp S s i u j c)) (fun σ1 => (∃ k k2 a a2 n, k < 4 ∧ k2 < 4 ∧ s = nI k ∧ u = nI k2 ∧ i = nI a ∧ j = nI a2 ∧ c = nI n ∧ a + n ≤ (S k).2 ∧ a2 + n ≤ (S k2).2 ∧ (S k).1 ≠ -1 ∧ (S k).1 = (S k2).1 ∧ ycP k k2 a a2 n σ σ1) ∨ (¬ ((0 ≤ s ∧ s < 4) ∧ (0 ≤ u ∧ u < 4) ∧ (S s.toNatClampNeg).1 ≠ -1 ∧ (S s.toNatClampNeg).1 = (S u.toNatClampNeg).1 ∧ covB (S s.toNatClampNeg).2 i c = true ∧ covB (S u.toNatClampNeg).2 j c = true) ∧ σ1 = σ)) := by
  have ok : mOkP md_X9_copyElements := ok_at 191 (by decide) rfl
  refine mC_of (md := md_X9_copyElements) rfl (lt_at (by decide)) rfl ?_
  unfold qCp
  refine mGo_run (n := 400) ok rfl ?_
  refine mGo_callP ok rfl (by omega) (m_isSlot (d := d) s) ?_
  by_cases hs : 0 ≤ s ∧ s < 4
  · rw [if_pos hs]
    refine mGo_if ok rfl (fun h1 => ?_) (fun h1 => ?_)
    · exact absurd h1 (by decide)
    · refine mGo_run (n := 400) ok rfl ?_
      refine mGo_callP ok rfl (by omega) (m_isSlot (d := d) u) ?_
      by_cases hu : 0 ≤ u ∧ u < 4
      · rw [if_pos hu, if_pos ⟨hs, hu⟩]
        obtain ⟨k, hk, rfl⟩ := sl_in.mp hs
        obtain ⟨k2, hk2, rfl⟩ := sl_in.mp hu
        rw [nI_clamp (show k < 2 ^ 31 by omega), nI_clamp (show k2 < 2 ^ 31 by omega)]
        obtain ⟨y1, y2⟩ := hY k hk
        obtain ⟨o1, o2⟩ := hO k hk
        obtain ⟨z1, z2⟩ := hY k2 hk2
        obtain ⟨p1, p2⟩ := hO k2 hk2
        refine mGo_if ok rfl (fun h2 => ?_) (fun h2 => ?_)
        · exact absurd h2 (by decide)
        · refine mGo_run (n := 400) ok rfl ?_
          refine mGo_side ok rfl (nI_in (by omega) (by omega)) ?_
          rw [nI_clamp (n := k) (by omega), y1]
          by_cases he : (S k).1 = -1
          · rw [if_pos (Or.inl he), he]
            refine mGo_if ok rfl (fun h3 => ?_) (fun h3 => ?_)
            · refine mGo_run (n := 400) ok rfl ?_
              exact mGo_ret ok rfl trivial (⟨rfl, rfl, Or.inr ⟨fun w => w.2.2.1 rfl, rfl⟩⟩)
            · exact absurd (by decide) h3
          · obtain ⟨t, ht, hty⟩ := o2.resolve_left (fun w => he w.1)
            have y2 := y2 he
            refine mGo_if ok rfl (fun h3 => ?_) (fun h3 => ?_)
            · rw [hty] at h3
              exact absurd h3 (nI_pos (by omega))
            · refine mGo_run (n := 400) ok rfl ?_
              refine mGo_side ok rfl (nI_in (by omega) (by omega)) ?_
              rw [nI_clamp (n := k2) (by omega), z1]
              by_cases hf : (S k2).1 = -1
              · rw [if_pos (Or.inr hf), hf]
                refine mGo_if ok rfl (fun h4 => ?_) (fun h4 => ?_)
                · exact absurd h4 (by decide)
                · refine mGo_run (n := 400) ok rfl ?_
                  exact mGo_ret ok rfl trivial (⟨rfl, rfl, Or.inr ⟨fun w => he w.2.2.2.1, rfl⟩⟩)
              · obtain ⟨t2, ht2, hty2⟩ := p2.resolve_left (fun w => hf w.1)
                have z2 := z2 hf
                rw [if_neg (fun w => w.elim he hf)]
                refine mGo_if ok rfl (fun h4 => ?_) (fun h4 => ?_)
                · refine mGo_run (n := 400) ok rfl ?_
                  refine mGo_side ok rfl (nI_in (by omega) (by omega)) ?_
                  rw [nI_clamp (n := k) (by omega), y1]
                  refine mGo_run (n := 400) ok rfl ?_
                  refine mGo_side ok rfl (nI_in (by omega) (by omega)) ?_
                  rw [nI_clamp (n := k2) (by omega), z1]
                  refine mGo_run (n := 400) ok rfl ?_
                  refine mGo_if ok rfl (fun h5 => ?_) (fun h5 => ?_)
                  · have h5 : (S k).1 = (S k2).1 := h5
                    rw [if_pos h5]
                    have out : ¬ (covB (S k).2 i c = true ∧ covB (S k2).2 j c = true) → mGo g l (d + 2) md_X9_copyElements (SH lk ex).length (mTot (SH lk ex)) (96, [some (.ref 48), some (.int (nI k)), some (.int i), some (.int (nI k2)), some (.int j), some (.int c), none, none], [], SH lk ex, σ) (fun r sp σ1 => r = some (.int (if covB (S k).2 i c = true ∧ covB (S k2).2 j c = true then c else -13)) ∧ sp = SH lk ex ∧ ((∃ k' k2' a a2 n, k' < 4 ∧ k2' < 4 ∧ nI k = nI k' ∧ nI k2 = nI k2' ∧ i = nI a ∧ j = nI a2 ∧ c = nI n ∧ a + n ≤ (S k').2 ∧ a2 + n ≤ (S k2').2 ∧ (S k').1 ≠ -1 ∧ (S k').1 = (S k2').1 ∧ ycP k' k2' a a2 n σ σ1) ∨ (¬ ((0 ≤ nI k ∧ nI k < 4) ∧ (0 ≤ nI k2 ∧ nI k2 < 4) ∧ (S k).1 ≠ -1 ∧ (S k).1 = (S k2).1 ∧ covB (S k).2 i c = true ∧ covB (S k2).2 j c = true) ∧ σ1 = σ))) := by
                      intro hno
                      rw [if_neg hno]
                      refine mGo_run (n := 400) ok rfl ?_
                      refine mGo_if ok rfl (fun h6 => ?_) (fun h6 => ?_)
                      · exact absurd h6 (by decide)
                      · refine mGo_run (n := 400) ok rfl ?_
                        exact mGo_ret ok rfl trivial (⟨rfl, rfl, Or.inr ⟨fun w => hno w.2.2.2.2, rfl⟩⟩)
                    have cv1 := cov2 o1 (i := i) (c := c)
                    have cv2 := cov2 p1 (i := j) (c := c)
                    refine mGo_run (n := 400) ok rfl ?_
                    refine mGo_if ok rfl (fun q1 => ?_) (fun q1 => ?_)
                    · exact out (fun w => absurd q1 (Int32.not_lt.mpr (cv1.mpr w.1).1))
                    · refine mGo_run (n := 400) ok rfl ?_
                      refine mGo_if ok rfl (fun q2 => ?_) (fun q2 => ?_)
                      · exact out (fun w => absurd q2 (Int32.not_lt.mpr (cv2.mpr w.2).1))
                      · refine mGo_run (n := 400) ok rfl ?_
                        refine mGo_if ok rfl (fun q3 => ?_) (fun q3 => ?_)
                        · exact out (fun w => absurd q3 (Int32.not_lt.mpr (cv1.mpr w.1).2.1))
                        · refine mGo_run (n := 400) ok rfl ?_
                          refine mGo_side ok rfl (nI_in (by omega) (by omega)) ?_
                          rw [nI_clamp (n := k) (by omega), y2]
                          refine mGo_run (n := 400) ok rfl ?_
                          refine mGo_if ok rfl (fun q4 => ?_) (fun q4 => ?_)
                          · exact out (fun w => absurd q4 (Int32.not_lt.mpr (cv1.mpr w.1).2.2))
                          · refine mGo_run (n := 400) ok rfl ?_
                            refine mGo_side ok rfl (nI_in (by omega) (by omega)) ?_
                            rw [nI_clamp (n := k2) (by omega), z2]
                            refine mGo_run (n := 400) ok rfl ?_
                            refine mGo_if ok rfl (fun q5 => ?_) (fun q5 => ?_)
                            · have g1 : covB (S k).2 i c = true := cv1.mp ⟨Int32.not_lt.mp q1, Int32.not_lt.mp q3, Int32.not_lt.mp q4⟩
                              have g2 : covB (S k2).2 j c = true := cv2.mp ⟨Int32.not_lt.mp q2, Int32.not_lt.mp q3, q5⟩
                              obtain ⟨a, n, rfl, rfl, hac⟩ := (qCov_iff o1).mp (covB_iff.mp g1)
                              obtain ⟨a2, n2, rfl, hn2, hac2⟩ := (qCov_iff p1).mp (covB_iff.mp g2)
                              have e : n = n2 := (nI_eq (by omega) (by omega)).mp hn2
                              subst e
                              rw [if_pos ⟨g1, g2⟩]
                              refine mGo_run (n := 400) ok rfl ?_
                              refine mGo_if ok rfl (fun h6 => ?_) (fun h6 => ?_)
                              · exact m_cp hk hk2 (by omega) (by omega) _ (fun σ1 hq => ⟨rfl, rfl, Or.inl ⟨k, k2, a, a2, n, hk, hk2, rfl, rfl, rfl, rfl, rfl, hac, hac2, he, h5, hq⟩⟩) rfl ok
                              · exact absurd rfl h6
                            · exact out (fun w => q5 (cv2.mpr w.2).2.2)
                  · have h5 : ¬ (S k).1 = (S k2).1 := h5
                    rw [if_neg h5]
                    refine mGo_run (n := 400) ok rfl ?_
                    exact mGo_ret ok rfl trivial (⟨rfl, rfl, Or.inr ⟨fun w => h5 w.2.2.2.1, rfl⟩⟩)
                · rw [hty2] at h4
                  exact absurd (nI_pos' (by omega)) h4
      · rw [if_neg hu, if_neg (fun w => hu w.2)]
        refine mGo_if ok rfl (fun h2 => ?_) (fun h2 => ?_)
        · refine mGo_run (n := 400) ok rfl ?_
          exact mGo_ret ok rfl trivial (⟨rfl, rfl, Or.inr ⟨fun w => hu w.2.1, rfl⟩⟩)
        · exact absurd rfl h2
  · rw [if_neg hs, if_neg (fun w => hs w.1)]
    refine mGo_if ok rfl (fun h1 => ?_) (fun h1 => ?_)
    · refine mGo_run (n := 400) ok rfl ?_
      exact mGo_ret ok rfl trivial (⟨rfl, rfl, Or.inr ⟨fun w => hs w.1, rfl⟩⟩)
    · exact absurd rfl h1
end T
