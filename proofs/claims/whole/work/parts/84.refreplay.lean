/-! replay: the reference -/
section T
variable {g : mG} {l : Launch} {d : Nat} {lk : Nat} {ex : mSh} {σ : mHp} {S : aSl} {F : aF}
/-- what replay changes in the reference -/
def frR (σ σ1 : mHp) : Prop := fq σ σ1 ∧ fm [15, 16, 17, 18, 19, 24, 25, 26] σ σ1
theorem frR.refl {σ : mHp} : frR σ σ := ⟨fq.refl, fm.refl⟩
theorem frR.trans {σ σ1 σ2 : mHp} (h1 : frR σ σ1) (h2 : frR σ1 σ2) : frR σ σ2 := ⟨h1.1.trans h2.1, h1.2.trans h2.2⟩
set_option maxHeartbeats 1000000 in
theorem y_replay (hf : fOk F) (hm : mF σ F) (hO : sOk S) (hY : yS σ S) {bg w : Bool} {k0 man : Nat} {ps : aPs} (hD : rD σ bg w k0 man ps) (s f m : Int32) : mNR g l (d + 6) 192 [.ref 48, .int s, .int f, .int m] lk ex σ (.int (if 0 ≤ s ∧ s < 4 then (qRp F (S s.toNatClampNeg).1 (S s.toNatClampNeg).2 (fun i => σ.2.1 64 (40 * s.toNatClampNeg + i)) f m).1 else -1)) (fun σ1 => frR σ σ1 ∧ mF σ1 F ∧ match (if 0 ≤ s ∧ s < 4 then (qRp F (S s.toNatClampNeg).1 (S s.toNatClampNeg).2 (fun i => σ.2.1 64 (40 * s.toNatClampNeg + i)) f m).2 else none) with
    | none => rD σ1 bg w k0 man ps
    | some (mn, w1, k1, ps1) => rD σ1 true w1 k1 mn ps1) := by
  have h4 := hf.1
  have h40 := hf.2.1
  have ok : mOkP md_X9_replay := ok_at 192 (by decide) rfl
  refine mC_of (md := md_X9_replay) rfl (lt_at (by decide)) rfl ?_
  refine mGo_run (n := 400) ok rfl ?_
  refine mGo_callP ok rfl (by omega) (m_isSlot (d := d) s) ?_
  by_cases hs : 0 ≤ s ∧ s < 4
  · rw [if_pos hs, if_pos hs, if_pos hs]
    obtain ⟨k, hk, rfl⟩ := sl_in.mp hs
    rw [nI_clamp (by omega)]
    obtain ⟨y1, y2⟩ := hY k hk
    obtain ⟨o1, o2⟩ := hO k hk
    unfold qRp
    refine mGo_if ok rfl (fun h1 => ?_) (fun h1 => ?_)
    · exact absurd h1 (by decide)
    · refine mGo_run (n := 400) ok rfl ?_
      refine mGo_side ok rfl (nI_in (by omega) (by omega)) ?_
      rw [nI_clamp (n := k) (by omega), y1]
      by_cases he : (S k).1 = -1
      · rw [if_pos he, he]
        refine mGo_if ok rfl (fun h2 => ?_) (fun h2 => ?_)
        · exact absurd h2 (by decide)
        · refine mGo_run (n := 400) ok rfl ?_
          exact mGo_ret ok rfl trivial (⟨rfl, rfl, frR.refl, hm, hD⟩)
      · obtain ⟨t, ht, hty⟩ := o2.resolve_left (fun z => he z.1)
        have y2 := y2 he
        rw [if_neg he]
        refine mGo_if ok rfl (fun h2 => ?_) (fun h2 => ?_)
        · refine mGo_run (n := 400) ok rfl ?_
          refine mGo_side ok rfl (nI_in (by omega) (by omega)) ?_
          rw [nI_clamp (n := k) (by omega), y1]
          refine mGo_if ok rfl (fun h3 => ?_) (fun h3 => ?_)
          · have h3 : (S k).1 = 0 := h3
            rw [if_neg (fun z => z h3)]
            refine mGo_run (n := 400) ok rfl ?_
            by_cases hF : 0 ≤ f ∧ f < nI (aN F)
            · rw [if_neg (fun z => z hF)]
              obtain ⟨j, hj, rfl⟩ := (i_in (by omega)).mp hF
              rw [nI_clamp (show j < 2 ^ 31 by omega)]
              refine mGo_callP ok rfl (by omega) (m_isFormula1 (d := d) hm.1 h4 h40 hj) ?_
              refine mGo_if ok rfl (fun q1 => ?_) (fun q1 => ?_)
              · exact absurd q1 (by decide)
              · refine mGo_run (n := 400) ok rfl ?_
                refine mGo_side ok rfl (nI_in (by omega) (by omega)) ?_
                rw [nI_clamp (n := j) (by omega), (hm.2 j hj).1]
                have hk4 := (hf.2.2 j hj).2.1
                refine mGo_ifI ok rfl (nI_eq (a := aK F j) (b := 0) (by omega) (by omega)) (fun k0' => ?_) (fun k0' => ?_)
                · rw [if_pos (fun z => z.2 k0')]
                  refine mGo_run (n := 400) ok rfl ?_
                  exact mGo_ret ok rfl trivial (⟨rfl, rfl, frR.refl, hm, hD⟩)
                · refine mGo_run (n := 400) ok rfl ?_
                  refine mGo_callP ok rfl (by omega) (m_isManner (d := d) m) ?_
                  by_cases hq : qMan m
                  · rw [if_pos hq, if_neg (fun z => z ⟨hq, k0'⟩)]
                    obtain ⟨mn, hmn, rfl⟩ := qMan_n hq
                    rw [nI_clamp (show mn < 2 ^ 31 by omega)]
                    refine mGo_if ok rfl (fun q2 => ?_) (fun q2 => ?_)
                    · exact absurd q2 (by decide)
                    · refine mGo_run (n := 400) ok rfl ?_
                      refine mGo_callV ok rfl (by omega) (m_start (d := d) (r := 0) hf hm hj k0' hmn (by omega)) (fun τ hτ => ?_)
                      obtain ⟨t1, t2, t3, t4, -⟩ := hτ
                      refine mGo_runS 75 (n := 400) ok rfl ?_
                      have fin : ∀ (τ : mHp) (w1 : Bool) (k1 : Nat) (ps1 : aPs) (x4 : Int32) (L5 : Option Value), frR σ τ → mF τ F → rD τ true w1 k1 mn ps1 → mGo g l (d + 6) md_X9_replay (SH lk ex).length (mTot (SH lk ex)) (148, [some (.ref 48), some (.int (nI k)), some (.int (nI j)), some (.int (nI mn)), some (.int x4), L5], [], SH lk ex, τ) (fun r sp σ1 => r = some (.int (if w1 = true then nI k1 + 1000 else nI k1)) ∧ sp = SH lk ex ∧ (frR σ σ1 ∧ mF σ1 F ∧ rD σ1 true w1 k1 mn ps1)) := by
                        intro τ w1 k1 ps1 x4 L5 u1 u2 u3
                        obtain ⟨v1, v2, v3, v4⟩ := u3.2 rfl
                        refine mGo_run (n := 400) ok rfl ?_
                        rw [v1, v2]
                        cases w1 with
                        | true =>
                          refine mGo_if ok rfl (fun e1 => ?_) (fun e1 => ?_)
                          · exact absurd e1 (by decide)
                          · refine mGo_run (n := 400) ok rfl ?_
                            exact mGo_ret ok rfl trivial (⟨rfl, rfl, u1, u2, u3⟩)
                        | false =>
                          refine mGo_if ok rfl (fun e1 => ?_) (fun e1 => ?_)
                          · refine mGo_run (n := 400) ok rfl ?_
                            exact mGo_ret ok rfl trivial (⟨by simp, rfl, u1, u2, u3⟩)
                          · exact absurd rfl e1
                      have loop : ∀ q i k1 ps1, i + 2 * q + (S k).2 % 2 = (S k).2 → ∀ (τ : mHp), frR σ τ → mF τ F → rD τ true false k1 mn ps1 → dOk F k1 mn ps1 → mGo g l (d + 6) md_X9_replay (SH lk ex).length (mTot (SH lk ex)) (75, [some (.ref 48), some (.int (nI k)), some (.int (nI j)), some (.int (nI mn)), some (.int 1), some (.int (nI i))], [], SH lk ex, τ) (fun r sp σ1 => r = some (.int (RP F mn (fun i => σ.2.1 64 (40 * k + i)) q i k1 ps1).1) ∧ sp = SH lk ex ∧ (frR σ σ1 ∧ mF σ1 F ∧ rD σ1 true (RP F mn (fun i => σ.2.1 64 (40 * k + i)) q i k1 ps1).2.1 (RP F mn (fun i => σ.2.1 64 (40 * k + i)) q i k1 ps1).2.2.1 mn (RP F mn (fun i => σ.2.1 64 (40 * k + i)) q i k1 ps1).2.2.2)) := by
                        intro q
                        induction q with
                        | zero =>
                          intro i k1 ps1 hi τ u1 u2 u3 u4
                          have e63 : τ.1 63 k = nI (S k).2 := by rw [(u1.1.1 63 (by omega)).1]; exact y2
                          refine mGo_run (n := 400) ok rfl ?_
                          rw [nI_1]
                          refine mGo_side ok rfl (nI_in (by omega) (by omega)) ?_
                          rw [nI_clamp (n := k) (by omega), e63]
                          refine mGo_ifI ok rfl (nI_leI (a := (S k).2) (b := i + 1) (by omega) (by omega)) (fun e1 => ?_) (fun e1 => ?_)
                          · exact fin τ false k1 ps1 _ _ u1 u2 u3
                          · omega
                        | succ q ih =>
                          intro i k1 ps1 hi τ u1 u2 u3 u4
                          have e63 : τ.1 63 k = nI (S k).2 := by rw [(u1.1.1 63 (by omega)).1]; exact y2
                          have e64 : τ.2.1 64 = σ.2.1 64 := (u1.1.1 64 (by omega)).2.1
                          refine mGo_run (n := 400) ok rfl ?_
                          rw [nI_1]
                          refine mGo_side ok rfl (nI_in (by omega) (by omega)) ?_
                          rw [nI_clamp (n := k) (by omega), e63]
                          refine mGo_ifI ok rfl (nI_leI (a := (S k).2) (b := i + 1) (by omega) (by omega)) (fun e1 => ?_) (fun e1 => ?_)
                          · omega
                          · refine mGo_run (n := 400) ok rfl ?_
                            refine mGo_if ok rfl (fun e2 => ?_) (fun e2 => ?_)
                            · exact absurd e2 (by decide)
                            · refine mGo_run (n := 400) ok rfl ?_
                              rw [mul40, nI_add]
                              refine mGo_side ok rfl (nI_in (by omega) (by omega)) ?_
                              rw [nI_clamp (n := 40 * k + i) (by omega), e64]
                              refine mGo_run (n := 400) ok rfl ?_
                              rw [mul40, nI_add, nI_1]
                              refine mGo_side ok rfl (nI_in (by omega) (by omega)) ?_
                              rw [nI_clamp (n := 40 * k + i + 1) (by omega), e64]
                              refine mGo_run (n := 400) ok rfl ?_
                              refine mGo_callR ok rfl (by omega) (m_playOne (d := d) hf u2 u3 u4.1 u4.2.1 (σ.2.1 64 (40 * k + i)).toInt32 (σ.2.1 64 (40 * k + i + 1)).toInt32) (fun τ2 hτ2 => ?_)
                              obtain ⟨p1, p2, p3⟩ := hτ2
                              have aw := aPl_won hf k1 mn ps1 (σ.2.1 64 (40 * k + i)).toInt32 (σ.2.1 64 (40 * k + i + 1)).toInt32
                              have hd2 := dOk_pl hf u4 (σ.2.1 64 (40 * k + i)).toInt32 (σ.2.1 64 (40 * k + i + 1)).toInt32
                              have u5 : frR σ τ2 := u1.trans ⟨p1.1, p1.2.wide (by decide)⟩
                              have e63b : τ2.1 63 k = nI (S k).2 := by rw [(u5.1.1 63 (by omega)).1]; exact y2
                              simp only [RP]
                              have stop : ∀ (w1 : Bool), (aPl F k1 mn ps1 (σ.2.1 64 (40 * k + i)).toInt32 (σ.2.1 64 (40 * k + i + 1)).toInt32).2.1 = w1 → mGo g l (d + 6) md_X9_replay (SH lk ex).length (mTot (SH lk ex)) (139, [some (.ref 48), some (.int (nI k)), some (.int (nI j)), some (.int (nI mn)), some (.int 1), some (.int (nI i))], [], SH lk ex, τ2) (fun r sp σ1 => r = some (.int (if w1 = true then nI (aPl F k1 mn ps1 (σ.2.1 64 (40 * k + i)).toInt32 (σ.2.1 64 (40 * k + i + 1)).toInt32).2.2.1 + 1000 else nI (aPl F k1 mn ps1 (σ.2.1 64 (40 * k + i)).toInt32 (σ.2.1 64 (40 * k + i + 1)).toInt32).2.2.1)) ∧ sp = SH lk ex ∧ (frR σ σ1 ∧ mF σ1 F ∧ rD σ1 true w1 (aPl F k1 mn ps1 (σ.2.1 64 (40 * k + i)).toInt32 (σ.2.1 64 (40 * k + i + 1)).toInt32).2.2.1 mn (aPl F k1 mn ps1 (σ.2.1 64 (40 * k + i)).toInt32 (σ.2.1 64 (40 * k + i + 1)).toInt32).2.2.2)) := by
                                intro w1 hw1
                                rw [hw1] at p3
                                refine mGo_run (n := 400) ok rfl ?_
                                rw [show nI i + 2 = nI (i + 2) from nI_add i 2, nI_1]
                                refine mGo_side ok rfl (nI_in (by omega) (by omega)) ?_
                                rw [nI_clamp (n := k) (by omega), e63b]
                                refine mGo_ifI ok rfl (nI_leI (a := (S k).2) (b := i + 2 + 1) (by omega) (by omega)) (fun e5 => ?_) (fun e5 => ?_)
                                · exact fin τ2 w1 _ _ _ _ u5 p2 p3
                                · refine mGo_run (n := 400) ok rfl ?_
                                  refine mGo_if ok rfl (fun e6 => ?_) (fun e6 => ?_)
                                  · exact fin τ2 w1 _ _ _ _ u5 p2 p3
                                  · exact absurd rfl e6
                              by_cases hw : (aPl F k1 mn ps1 (σ.2.1 64 (40 * k + i)).toInt32 (σ.2.1 64 (40 * k + i + 1)).toInt32).2.1 = true
                              · have hst := stop true hw
                                rw [if_pos rfl] at hst
                                have := aw.2 hw
                                rw [hw] at p3
                                have e25 := (p3.2 rfl).1
                                refine mGo_if ok rfl (fun e3 => ?_) (fun e3 => ?_)
                                · exact absurd e3 this
                                · refine mGo_run (n := 400) ok rfl ?_
                                  rw [e25]
                                  refine mGo_if ok rfl (fun e4 => ?_) (fun e4 => ?_)
                                  · exact absurd e4 (by decide)
                                  · rw [if_pos (show (aPl F k1 mn ps1 (σ.2.1 64 (40 * k + i)).toInt32 (σ.2.1 64 (40 * k + (i + 1))).toInt32).2.1 = true from hw)]
                                    exact hst
                              · have hw2 : (aPl F k1 mn ps1 (σ.2.1 64 (40 * k + i)).toInt32 (σ.2.1 64 (40 * k + i + 1)).toInt32).2.1 = false := by simpa using hw
                                have hst := stop false hw2
                                rw [if_neg (by decide)] at hst
                                rw [if_neg (show ¬ (aPl F k1 mn ps1 (σ.2.1 64 (40 * k + i)).toInt32 (σ.2.1 64 (40 * k + (i + 1))).toInt32).2.1 = true from hw)]
                                rw [hw2] at p3
                                have e25 := (p3.2 rfl).1
                                refine mGo_if ok rfl (fun e3 => ?_) (fun e3 => ?_)
                                · rw [if_pos (show (aPl F k1 mn ps1 (σ.2.1 64 (40 * k + i)).toInt32 (σ.2.1 64 (40 * k + (i + 1))).toInt32).1 < 0 from e3)]
                                  exact hst
                                · rw [if_neg (show ¬ (aPl F k1 mn ps1 (σ.2.1 64 (40 * k + i)).toInt32 (σ.2.1 64 (40 * k + (i + 1))).toInt32).1 < 0 from e3)]
                                  refine mGo_run (n := 400) ok rfl ?_
                                  rw [e25]
                                  refine mGo_if ok rfl (fun e4 => ?_) (fun e4 => ?_)
                                  · refine mGo_runS 75 (n := 400) ok rfl ?_
                                    rw [show nI i + 2 = nI (i + 2) from nI_add i 2]
                                    exact ih (i + 2) _ _ (by omega) τ2 u5 p2 p3 hd2
                                  · exact absurd rfl e4
                      exact loop ((S k).2 / 2) 0 0 _ (by omega) τ ⟨t1, t2.wide (by decide)⟩ t3 t4 (dOk_st hf hmn hj k0')
                  · rw [if_neg hq, if_pos (fun z => hq z.1)]
                    refine mGo_if ok rfl (fun q2 => ?_) (fun q2 => ?_)
                    · refine mGo_run (n := 400) ok rfl ?_
                      exact mGo_ret ok rfl trivial (⟨rfl, rfl, frR.refl, hm, hD⟩)
                    · exact absurd rfl q2
            · rw [if_pos hF]
              refine mGo_callP ok rfl (by omega) (m_isFormula0 (d := d) hm.1 h4 h40 (fun z => hF ((i_in (by omega)).mpr z))) ?_
              refine mGo_if ok rfl (fun q1 => ?_) (fun q1 => ?_)
              · refine mGo_run (n := 400) ok rfl ?_
                exact mGo_ret ok rfl trivial (⟨rfl, rfl, frR.refl, hm, hD⟩)
              · exact absurd rfl q1
          · have h3 : ¬ (S k).1 = 0 := h3
            rw [if_pos h3]
            refine mGo_run (n := 400) ok rfl ?_
            exact mGo_ret ok rfl trivial (⟨rfl, rfl, frR.refl, hm, hD⟩)
        · rw [hty] at h2
          exact absurd (nI_pos' (by omega)) h2
  · rw [if_neg hs, if_neg hs, if_neg hs]
    refine mGo_if ok rfl (fun h1 => ?_) (fun h1 => ?_)
    · refine mGo_run (n := 400) ok rfl ?_
      exact mGo_ret ok rfl trivial (⟨rfl, rfl, frR.refl, hm, hD⟩)
    · exact absurd rfl h1
end T
