/-! the reference: the dialogue's public methods -/
/-- what the reference changes while it looks at a dialogue: its position and its move -/
def frL (σ σ1 : mHp) : Prop := fr 48 49 σ σ1 ∧ fm [15, 16, 18, 19] σ σ1
theorem frL.refl {σ : mHp} : frL σ σ := ⟨fr.refl, fm.refl⟩
theorem frL.trans {σ σ1 σ2 : mHp} (h1 : frL σ σ1) (h2 : frL σ1 σ2) : frL σ σ2 := ⟨h1.1.trans h2.1, h1.2.trans h2.2⟩
theorem frL_now {σ : mHp} (a b : Int64) : frL σ (mWL (mWL σ 48 15 a) 48 16 b) := ⟨(fr.refl.WL (by decide) (by decide)).WL (by decide) (by decide), (fm.refl.WL (fun _ => by decide)).WL (fun _ => by decide)⟩
theorem frL_mv {σ : mHp} (a b : Int32) : frL σ (mWI (mWI σ 48 18 a) 48 19 b) := ⟨(fr.refl.WI (by decide) (by decide)).WI (by decide) (by decide), (fm.refl.WI (fun _ => by decide)).WI (fun _ => by decide)⟩
theorem frL.mF {σ σ1 : mHp} {F : aF} (h : frL σ σ1) (hm : mF σ F) : mF σ1 F := mF_f2 h.1 h.2 (by omega) (by decide) hm
theorem frL.rD {σ σ1 : mHp} {bg w : Bool} {k man : Nat} {ps : Nat → Int64 × Int64} (h : frL σ σ1) (hd : rD σ bg w k man ps) : rD σ1 bg w k man ps := rD_fr h.1 h.2 (by omega) (by decide) hd
theorem mV_mk {σ : mHp} (q : Nat × Nat) : mV (mWI (mWI σ 48 18 (nI q.1)) 48 19 (nI q.2)) q := ⟨by simp [WI_at], by simp [WI_at]⟩
section T
variable {g : mG} {l : Launch} {d : Nat} {lk : Nat} {ex : mSh} {σ : mHp} {F : aF} {bg w : Bool} {k man : Nat} {ps : Nat → Int64 × Int64}
theorem y_begin (hf : fOk F) (hm : mF σ F) (hD : rD σ bg w k man ps) (f m r : Int32) : mNR g l (d + 3) 173 [.ref 48, .int f, .int m, .int r] lk ex σ (.int (qBeg F f m r).1) (fun σ1 => fq σ σ1 ∧ fm [15, 16, 17, 24, 25, 26] σ σ1 ∧ mF σ1 F ∧ match (qBeg F f m r).2 with
    | none => rD σ1 bg w k man ps
    | some p => rD σ1 true false 0 p.1 (fun _ => p.2)) := by
  have hn := hf.2.1
  have ok : mOkP md_X9_begin := ok_at 173 (by decide) rfl
  refine mC_of (md := md_X9_begin) rfl (lt_at (by decide)) rfl ?_
  refine mGo_run (n := 400) ok rfl ?_
  by_cases hfm : 0 ≤ f ∧ f < nI (aN F)
  · obtain ⟨j, hj, rfl⟩ := (i_in (by omega)).mp hfm
    have ha := atk_le (aK F j)
    refine mGo_callP ok rfl (by omega) (m_isFormula1 (d := d) hm.1 hf.1 hf.2.1 hj) ?_
    refine mGo_if ok rfl (fun h => ?_) (fun h => ?_)
    · exact absurd h (by decide)
    · have bad : ¬ (qMan m ∧ 0 ≤ r ∧ r < nI (atk (aK F j))) → mGo g l (d + 3) md_X9_begin (SH lk ex).length (mTot (SH lk ex)) (33, [some (.ref 48), some (.int (nI j)), some (.int m), some (.int r)], [], SH lk ex, σ) (fun r1 sp σ1 => r1 = some (.int (qBeg F (nI j) m r).1) ∧ sp = SH lk ex ∧ (fq σ σ1 ∧ fm [15, 16, 17, 24, 25, 26] σ σ1 ∧ mF σ1 F ∧ match (qBeg F (nI j) m r).2 with
          | none => rD σ1 bg w k man ps
          | some p => rD σ1 true false 0 p.1 (fun _ => p.2))) := by
        intro hb
        have eq : qBeg F (nI j) m r = (-1, none) := by
          unfold qBeg
          rw [if_neg (fun z => z hfm), if_pos (by rw [nI_clamp (by omega)]; exact hb)]
        rw [eq]
        refine mGo_run (n := 400) ok rfl ?_
        exact mGo_ret ok rfl trivial (⟨rfl, rfl, fq.refl, fm.refl, hm, hD⟩)
      refine mGo_run (n := 400) ok rfl ?_
      refine mGo_callP ok rfl (by omega) (m_isManner (d := d) m) ?_
      refine mGo_if ok rfl (fun h1 => ?_) (fun h1 => ?_)
      · exact bad (fun z => by rw [if_pos z.1] at h1; exact absurd h1 (by decide))
      · have hman : qMan m := by
          by_cases z : qMan m
          · exact z
          · rw [if_neg z] at h1; exact absurd rfl h1
        refine mGo_run (n := 400) ok rfl ?_
        refine mGo_callP ok rfl (by omega) (m_attacksOn (d := d) hf hm hj) ?_
        refine mGo_run (n := 400) ok rfl ?_
        refine mGo_callP ok rfl (by omega) (m_isIn (d := d) r 0 (nI (atk (aK F j)) - 1)) ?_
        by_cases hg : qMan m ∧ 0 ≤ r ∧ r < nI (atk (aK F j))
        · obtain ⟨rn, hrn, rfl⟩ := (i_in (n := atk (aK F j)) (by omega)).mp hg.2
          obtain ⟨mn, hmn, rfl⟩ := qMan_n hman
          have eq : qBeg F (nI j) (nI mn) (nI rn) = (nI (mvs F (atP2 F mn 0 0 j rn).1 (atP2 F mn 0 0 j rn).2).length, some (mn, atP2 F mn 0 0 j rn)) := by
            unfold qBeg
            rw [if_neg (fun z => z hfm), if_neg (by rw [nI_clamp (n := j) (by omega)]; exact fun z => z hg), nI_clamp (n := j) (by omega), nI_clamp (n := mn) (by omega), nI_clamp (n := rn) (by omega)]
          rw [eq, if_pos ⟨hg.2.1, (i_le1 (by omega) (by omega)).mpr hg.2.2⟩]
          have k0 : aK F j ≠ 0 := fun z => by rw [z] at hrn; exact absurd hrn (by simp [atk])
          refine mGo_if ok rfl (fun h2 => ?_) (fun h2 => ?_)
          · exact absurd h2 (by decide)
          · refine mGo_run (n := 400) ok rfl ?_
            refine mGo_callV ok rfl (by omega) (m_start (d := d) hf hm hj k0 hmn (by omega)) (fun σ1 hσ1 => ?_)
            refine mGo_run (n := 400) ok rfl ?_
            refine mGo_callP ok rfl (by omega) (m_countMoves (d := d) hf hσ1.2.2.1 hσ1.2.2.2.2) ?_
            refine mGo_run (n := 400) ok rfl ?_
            exact mGo_ret ok rfl trivial (⟨rfl, rfl, hσ1.1, hσ1.2.1, hσ1.2.2.1, hσ1.2.2.2.1⟩)
        · have no : ¬ (0 ≤ r ∧ r ≤ nI (atk (aK F j)) - 1) := by
            intro z
            rcases Nat.eq_zero_or_pos (atk (aK F j)) with y | y
            · rw [y] at z
              have : (0 : Int32) ≤ nI 0 - 1 := Int32.le_trans z.1 z.2
              exact absurd this (by decide)
            · exact hg ⟨hman, z.1, (i_le1 (by omega) (by omega)).mp z.2⟩
          rw [if_neg no]
          refine mGo_if ok rfl (fun h2 => ?_) (fun h2 => ?_)
          · exact bad hg
          · exact absurd rfl h2
  · have eq : qBeg F f m r = (-2, none) := by unfold qBeg; rw [if_pos hfm]
    rw [eq]
    refine mGo_callP ok rfl (by omega) (m_isFormula0 (d := d) hm.1 hf.1 hf.2.1 (fun z => hfm ((i_in (by omega)).mpr z))) ?_
    refine mGo_if ok rfl (fun h => ?_) (fun h => ?_)
    · refine mGo_run (n := 400) ok rfl ?_
      exact mGo_ret ok rfl trivial (⟨rfl, rfl, fq.refl, fm.refl, hm, hD⟩)
    · exact absurd rfl h
theorem y_claims (hD : rD σ bg w k man ps) (hk : k ≤ 20) : mNP g l (d + 1) 174 [.ref 48] lk ex σ (.long (if (bg && !w) = true then (ps k).1 else -9223372036854775808)) := by
  have ok : mOkP md_X9_claims := ok_at 174 (by decide) rfl
  refine mC_of (md := md_X9_claims) rfl (lt_at (by decide)) rfl ?_
  refine mGo_run (n := 400) ok rfl ?_
  refine mGo_callP ok rfl (by omega) (m_isPlaying (d := d) hD) ?_
  refine mGo_ifI ok rfl (bI_0) (fun h => ?_) (fun h => ?_)
  · refine mGo_run (n := 400) ok rfl ?_
    exact mGo_ret ok rfl trivial (⟨by rw [h]; rfl, rfl, rfl⟩)
  · have e : (bg && !w) = true := by simpa using h
    have eb : bg = true := by cases bg; simp at e; rfl
    obtain ⟨g1, g2, g3, g4⟩ := hD.2 eb
    refine mGo_run (n := 400) ok rfl ?_
    rw [g2]
    refine mGo_side ok rfl (nI_in (by omega) (by omega)) ?_
    rw [nI_clamp (n := k) (by omega), (g4 k (Nat.le_refl _)).1]
    refine mGo_run (n := 400) ok rfl ?_
    exact mGo_ret ok rfl trivial (⟨by rw [if_pos e], rfl, rfl⟩)
theorem y_defences (hD : rD σ bg w k man ps) (hk : k ≤ 20) : mNP g l (d + 1) 175 [.ref 48] lk ex σ (.long (if (bg && !w) = true then (ps k).2 else -9223372036854775808)) := by
  have ok : mOkP md_X9_defences := ok_at 175 (by decide) rfl
  refine mC_of (md := md_X9_defences) rfl (lt_at (by decide)) rfl ?_
  refine mGo_run (n := 400) ok rfl ?_
  refine mGo_callP ok rfl (by omega) (m_isPlaying (d := d) hD) ?_
  refine mGo_ifI ok rfl (bI_0) (fun h => ?_) (fun h => ?_)
  · refine mGo_run (n := 400) ok rfl ?_
    exact mGo_ret ok rfl trivial (⟨by rw [h]; rfl, rfl, rfl⟩)
  · have e : (bg && !w) = true := by simpa using h
    have eb : bg = true := by cases bg; simp at e; rfl
    obtain ⟨g1, g2, g3, g4⟩ := hD.2 eb
    refine mGo_run (n := 400) ok rfl ?_
    rw [g2]
    refine mGo_side ok rfl (nI_in (by omega) (by omega)) ?_
    rw [nI_clamp (n := k) (by omega), (g4 k (Nat.le_refl _)).2]
    refine mGo_run (n := 400) ok rfl ?_
    exact mGo_ret ok rfl trivial (⟨by rw [if_pos e], rfl, rfl⟩)
theorem on_bg (h : (bg && !w) = true) : bg = true ∧ w = false := by cases bg <;> cases w <;> simp at h <;> exact ⟨rfl, rfl⟩
theorem y_moveCount (hf : fOk F) (hm : mF σ F) (hD : rD σ bg w k man ps) (hk : k ≤ 20) : mNR g l (d + 3) 176 [.ref 48] lk ex σ (.int (if (bg && !w) = true then nI (mvs F (ps k).1 (ps k).2).length else -7)) (frL σ) := by
  have ok : mOkP md_X9_moveCount := ok_at 176 (by decide) rfl
  refine mC_of (md := md_X9_moveCount) rfl (lt_at (by decide)) rfl ?_
  refine mGo_run (n := 400) ok rfl ?_
  refine mGo_callP ok rfl (by omega) (m_isPlaying (d := d) hD) ?_
  refine mGo_ifI ok rfl (bI_0) (fun h => ?_) (fun h => ?_)
  · refine mGo_run (n := 400) ok rfl ?_
    exact mGo_ret ok rfl trivial (⟨by rw [h]; rfl, rfl, frL.refl⟩)
  · have e : (bg && !w) = true := by simpa using h
    obtain ⟨rfl, rfl⟩ := on_bg e
    refine mGo_run (n := 400) ok rfl ?_
    refine mGo_callV ok rfl (by omega) (m_now (d := d) hD hk) (fun σ1 hσ1 => ?_)
    subst hσ1
    refine mGo_run (n := 400) ok rfl ?_
    refine mGo_callP ok rfl (by omega) (m_countMoves (d := d) hf ((frL_now _ _).mF hm) (c := (ps k).1) (o := (ps k).2) ⟨by simp [WL_at], by simp [WL_at]⟩) ?_
    refine mGo_run (n := 400) ok rfl ?_
    exact mGo_ret ok rfl trivial (⟨by rw [if_pos e], rfl, frL_now _ _⟩)
theorem y_move (hf : fOk F) (hm : mF σ F) (hD : rD σ bg w k man ps) (hk : k ≤ 20) (m x : Int32) : mNR g l (d + 4) 177 [.ref 48, .int m, .int x] lk ex σ (.int (if (bg && !w) = true then qMove F (ps k) m x else -7)) (frL σ) := by
  have hml := mvs_len hf (ps k).1 (ps k).2
  have ok : mOkP md_X9_move := ok_at 177 (by decide) rfl
  refine mC_of (md := md_X9_move) rfl (lt_at (by decide)) rfl ?_
  refine mGo_run (n := 400) ok rfl ?_
  refine mGo_callP ok rfl (by omega) (m_isPlaying (d := d) hD) ?_
  refine mGo_ifI ok rfl (bI_0) (fun h => ?_) (fun h => ?_)
  · refine mGo_run (n := 400) ok rfl ?_
    exact mGo_ret ok rfl trivial (⟨by rw [h]; rfl, rfl, frL.refl⟩)
  · have e : (bg && !w) = true := by simpa using h
    obtain ⟨rfl, rfl⟩ := on_bg e
    rw [if_pos e]
    refine mGo_run (n := 400) ok rfl ?_
    refine mGo_callP ok rfl (by omega) (m_isIn (d := d) x 0 2) ?_
    by_cases hg : 0 ≤ x ∧ x ≤ 2
    · rw [if_pos hg]
      refine mGo_if ok rfl (fun h1 => ?_) (fun h1 => ?_)
      · exact absurd h1 (by decide)
      · refine mGo_run (n := 400) ok rfl ?_
        refine mGo_callV ok rfl (by omega) (m_now (d := d) hD hk) (fun σ1 hσ1 => ?_)
        have hl1 : frL σ σ1 := by rw [hσ1]; exact frL_now _ _
        have hq1 : mQ σ1 (ps k).1 (ps k).2 := by rw [hσ1]; exact ⟨by simp [WL_at], by simp [WL_at]⟩
        have hm1 := hl1.mF hm
        refine mGo_run (n := 400) ok rfl ?_
        rcases mvA_cases (mvs F (ps k).1 (ps k).2) hml m with ⟨e1, e2⟩ | ⟨i, q, rfl, hi, e1⟩
        · refine mGo_callP ok rfl (by omega) (m_isMove0 (d := d) hf hm1 hq1 e2) ?_
          refine mGo_if ok rfl (fun h3 => ?_) (fun h3 => ?_)
          · refine mGo_run (n := 400) ok rfl ?_
            exact mGo_ret ok rfl trivial (⟨by unfold qMove; rw [if_neg (fun z => z hg), e1], rfl, hl1⟩)
          · exact absurd rfl h3
        · have hil := (List.getElem?_eq_some_iff.mp hi).1
          have ho := mvs_at hf hi
          have ev : qMove F (ps k) (nI i) x = if x = 0 then nI q.1 else if x = 1 then nI q.2 else nI (rpN F q) := by unfold qMove; rw [if_neg (fun z => z hg), e1]
          rw [ev]
          refine mGo_callR ok rfl (by omega) (m_isMove1 (d := d) hf hm1 hq1 hi) (fun σ2 hσ2 => ?_)
          have hl2 : frL σ σ2 := hl1.trans (by rw [hσ2]; exact frL_mv _ _)
          have hv2 : mV σ2 q := by rw [hσ2]; exact mV_mk q
          refine mGo_if ok rfl (fun h3 => ?_) (fun h3 => ?_)
          · exact absurd h3 (by decide)
          · refine mGo_run (n := 400) ok rfl ?_
            refine mGo_if ok rfl (fun h4 => ?_) (fun h4 => ?_)
            · refine mGo_run (n := 400) ok rfl ?_
              rw [hv2.1]
              exact mGo_ret ok rfl trivial (⟨by rw [if_pos h4], rfl, hl2⟩)
            · refine mGo_run (n := 400) ok rfl ?_
              refine mGo_if ok rfl (fun h5 => ?_) (fun h5 => ?_)
              · refine mGo_run (n := 400) ok rfl ?_
                rw [hv2.2]
                exact mGo_ret ok rfl trivial (⟨by rw [if_neg h4, if_pos h5], rfl, hl2⟩)
              · refine mGo_run (n := 400) ok rfl ?_
                refine mGo_callP ok rfl (by omega) (m_countReplies (d := d) hf (hl2.mF hm) hv2 ho) ?_
                refine mGo_run (n := 400) ok rfl ?_
                exact mGo_ret ok rfl trivial (⟨by rw [if_neg h4, if_neg h5], rfl, hl2⟩)
    · rw [if_neg hg]
      refine mGo_if ok rfl (fun h1 => ?_) (fun h1 => ?_)
      · refine mGo_run (n := 400) ok rfl ?_
        exact mGo_ret ok rfl trivial (⟨by unfold qMove; rw [if_pos hg], rfl, frL.refl⟩)
      · exact absurd rfl h1
/-- what the reference changes while it plays -/
def frP (σ σ1 : mHp) : Prop := fq σ σ1 ∧ fm [15, 16, 18, 19, 25, 26] σ σ1
theorem frP_L {σ σ1 : mHp} (h : frL σ σ1) : frP σ σ1 ∧ fr 48 49 σ σ1 := ⟨⟨⟨h.1.wide (by decide) (by decide), (h.1 52 (by omega)).1⟩, h.2.wide (by decide)⟩, h.1⟩
set_option maxHeartbeats 1000000 in
theorem m_playOne (hf : fOk F) (hm : mF σ F) (hD : rD σ true false k man ps) (hk : k ≤ 20) (hm1 : man ≤ 1) (m r : Int32) : mNR g l (d + 4) 178 [.ref 48, .int m, .int r] lk ex σ (.int (aPl F k man ps m r).1) (fun σ1 => frP σ σ1 ∧ mF σ1 F ∧ rD σ1 true (aPl F k man ps m r).2.1 (aPl F k man ps m r).2.2.1 man (aPl F k man ps m r).2.2.2) := by
  have hml := mvs_len hf (ps k).1 (ps k).2
  have ok : mOkP md_X9_playOne := ok_at 178 (by decide) rfl
  refine mC_of (md := md_X9_playOne) rfl (lt_at (by decide)) rfl ?_
  refine mGo_run (n := 400) ok rfl ?_
  refine mGo_callV ok rfl (by omega) (m_now (d := d) hD hk) (fun σ1 hσ1 => ?_)
  have hl1 : frL σ σ1 := by rw [hσ1]; exact frL_now _ _
  have hq1 : mQ σ1 (ps k).1 (ps k).2 := by rw [hσ1]; exact ⟨by simp [WL_at], by simp [WL_at]⟩
  have hF1 := hl1.mF hm
  clear hσ1
  refine mGo_run (n := 400) ok rfl ?_
  rcases mvA_cases (mvs F (ps k).1 (ps k).2) hml m with ⟨e1, e2⟩ | ⟨i, q, rfl, hi, e1⟩
  · have ea : aPl F k man ps m r = (-5, false, k, ps) := by unfold aPl; rw [e1]
    rw [ea]
    refine mGo_callP ok rfl (by omega) (m_isMove0 (d := d) hf hF1 hq1 e2) ?_
    refine mGo_if ok rfl (fun h1 => ?_) (fun h1 => ?_)
    · refine mGo_run (n := 400) ok rfl ?_
      exact mGo_ret ok rfl trivial (⟨rfl, rfl, (frP_L hl1).1, hF1, hl1.rD hD⟩)
    · exact absurd rfl h1
  · have hil := (List.getElem?_eq_some_iff.mp hi).1
    have ho := mvs_at hf hi
    have hr3 := rpN_le F q
    refine mGo_callR ok rfl (by omega) (m_isMove1 (d := d) hf hF1 hq1 hi) (fun σ2 hσ2 => ?_)
    have hl2 : frL σ σ2 := hl1.trans (by rw [hσ2]; exact frL_mv _ _)
    have hv2 : mV σ2 q := by rw [hσ2]; exact mV_mk q
    have hq2 : mQ σ2 (ps k).1 (ps k).2 := by rw [hσ2]; exact hq1
    have hF2 := hl2.mF hm
    have hD2 := hl2.rD hD
    clear hσ2
    obtain ⟨d1, d2⟩ := hD2
    obtain ⟨g1, g2, g3, g4⟩ := d2 rfl
    refine mGo_if ok rfl (fun h1 => ?_) (fun h1 => ?_)
    · exact absurd h1 (by decide)
    refine mGo_run (n := 400) ok rfl ?_
    refine mGo_callP ok rfl (by omega) (m_countReplies (d := d) hf hF2 hv2 ho) ?_
    refine mGo_run (n := 400) ok rfl ?_
    have fin : ∀ (τ : mHp) (w1 : Bool) (p : Int64 × Int64) (v : Int32), frL σ τ → mQ τ p.1 p.2 → (rpN F q = 0 ↔ w1 = true) → k < 20 → (w1 = true → v = 1000) → (w1 = false → v = nI (mvs F p.1 p.2).length) → mGo g l (d + 4) md_X9_playOne (SH lk ex).length (mTot (SH lk ex)) (58, [some (.ref 48), some (.int (nI i)), some (.int r), some (.int (nI (rpN F q)))], [], SH lk ex, τ) (fun r1 sp σ1 => r1 = some (.int v) ∧ sp = SH lk ex ∧ (frP σ σ1 ∧ mF σ1 F ∧ rD σ1 true w1 (k + 1) man (upP ps (k + 1) p))) := by
      intro τ w1 p v hl hq hw hk20 hv1 hv2
      have hDt := hl.rD hD
      obtain ⟨t1, t2⟩ := hDt
      obtain ⟨t3, t4, t5, t6⟩ := t2 rfl
      have cont : ∀ b : Int32, b = bI w1 → mGo g l (d + 4) md_X9_playOne (SH lk ex).length (mTot (SH lk ex)) (68, [some (.ref 48), some (.int (nI i)), some (.int r), some (.int (nI (rpN F q)))], [.int b, .ref 48], SH lk ex, τ) (fun r1 sp σ1 => r1 = some (.int v) ∧ sp = SH lk ex ∧ (frP σ σ1 ∧ mF σ1 F ∧ rD σ1 true w1 (k + 1) man (upP ps (k + 1) p))) := by
        intro b hb
        subst hb
        refine mGo_side ok rfl (by cases w1; exact Or.inl rfl; exact Or.inr rfl) ?_
        refine mGo_run (n := 400) ok rfl ?_
        rw [show (mWI τ 48 25 (bI w1)).1 48 26 = nI k by rw [WI_at, if_neg (by omega)]; exact t4, nI_1]
        rw [show (mWI (mWI τ 48 25 (bI w1)) 48 26 (nI (k + 1))).1 48 26 = nI (k + 1) by rw [WI_at, if_pos ⟨rfl, rfl⟩], show (mWI (mWI τ 48 25 (bI w1)) 48 26 (nI (k + 1))).2.1 48 15 = p.1 from hq.1]
        refine mGo_side ok rfl (nI_in (by omega) (by omega)) ?_
        rw [nI_clamp (by omega)]
        refine mGo_run (n := 400) ok rfl ?_
        rw [show (mWL (mWI (mWI τ 48 25 (bI w1)) 48 26 (nI (k + 1))) 60 (k + 1) p.1).1 48 26 = nI (k + 1) from (show (mWI (mWI τ 48 25 (bI w1)) 48 26 (nI (k + 1))).1 48 26 = nI (k + 1) by rw [WI_at, if_pos ⟨rfl, rfl⟩]), show (mWL (mWI (mWI τ 48 25 (bI w1)) 48 26 (nI (k + 1))) 60 (k + 1) p.1).2.1 48 16 = p.2 by rw [WL_at, if_neg (by omega)]; exact hq.2]
        refine mGo_side ok rfl (nI_in (by omega) (by omega)) ?_
        rw [nI_clamp (by omega)]
        refine mGo_run (n := 400) ok rfl ?_
        rw [show (mWL (mWL (mWI (mWI τ 48 25 (bI w1)) 48 26 (nI (k + 1))) 60 (k + 1) p.1) 61 (k + 1) p.2).1 48 25 = bI w1 from (show (mWI (mWI τ 48 25 (bI w1)) 48 26 (nI (k + 1))).1 48 25 = bI w1 by rw [WI_at, if_neg (by omega), WI_at, if_pos ⟨rfl, rfl⟩])]
        have fP : frP σ (mWL (mWL (mWI (mWI τ 48 25 (bI w1)) 48 26 (nI (k + 1))) 60 (k + 1) p.1) 61 (k + 1) p.2) := ⟨⟨((((hl.1.wide (by decide) (by decide)).WI (by decide) (by decide)).WI (by decide) (by decide)).WL (by decide) (by decide)).WL (by decide) (by decide), (((hl.1.WI (i := 48) (k := 25) (v := bI w1) (by decide) (by decide)).WI (i := 48) (k := 26) (v := nI (k + 1)) (by decide) (by decide)) 52 (by omega)).1⟩, ((((hl.2.wide (by decide)).WI (fun _ => by decide)).WI (fun _ => by decide)).WL (fun z => absurd z (by decide))).WL (fun z => absurd z (by decide))⟩
        have hFt := hl.mF hm
        have hFf : mF (mWL (mWL (mWI (mWI τ 48 25 (bI w1)) 48 26 (nI (k + 1))) 60 (k + 1) p.1) 61 (k + 1) p.2) F := by
          refine ⟨?_, fun j hj => hFt.2 j hj⟩
          show (mWI (mWI τ 48 25 (bI w1)) 48 26 (nI (k + 1))).1 48 0 = _
          simp only [WI_at]
          exact hFt.1
        have hDf : rD (mWL (mWL (mWI (mWI τ 48 25 (bI w1)) 48 26 (nI (k + 1))) 60 (k + 1) p.1) 61 (k + 1) p.2) true w1 (k + 1) man (upP ps (k + 1) p) := by
          refine ⟨?_, fun _ => ⟨?_, ?_, ?_, fun j hj => ?_⟩⟩
          · show (mWI (mWI τ 48 25 (bI w1)) 48 26 (nI (k + 1))).1 48 24 = _
            rw [WI_at, if_neg (by omega), WI_at, if_neg (by omega)]; exact t1
          · show (mWI (mWI τ 48 25 (bI w1)) 48 26 (nI (k + 1))).1 48 25 = _
            rw [WI_at, if_neg (by omega), WI_at, if_pos ⟨rfl, rfl⟩]
          · show (mWI (mWI τ 48 25 (bI w1)) 48 26 (nI (k + 1))).1 48 26 = _
            rw [WI_at, if_pos ⟨rfl, rfl⟩]
          · show (mWI (mWI τ 48 25 (bI w1)) 48 26 (nI (k + 1))).1 48 17 = _
            rw [WI_at, if_neg (by omega), WI_at, if_neg (by omega)]; exact t5
          · by_cases z : j = k + 1
            · subst z
              simp only [upP, if_pos]
              constructor <;> simp [WL_at]
            · simp only [upP, if_neg z]
              obtain ⟨u1, u2⟩ := t6 j (by omega)
              constructor
              · rw [WL_at, if_neg (by omega), WL_at, if_neg (by omega)]; exact u1
              · rw [WL_at, if_neg (by omega), WL_at, if_neg (by omega)]; exact u2
        refine mGo_ifI ok rfl (bI_0) (fun h5 => ?_) (fun h5 => ?_)
        · refine mGo_run (n := 400) ok rfl ?_
          refine mGo_callP ok rfl (by omega) (m_countMoves (d := d) hf hFf (c := p.1) (o := p.2) ⟨by rw [WL_at, if_neg (by omega), WL_at, if_neg (by omega)]; exact hq.1, by rw [WL_at, if_neg (by omega), WL_at, if_neg (by omega)]; exact hq.2⟩) ?_
          refine mGo_run (n := 400) ok rfl ?_
          exact mGo_ret ok rfl trivial (⟨by rw [hv2 h5], rfl, fP, hFf, hDf⟩)
        · have e5 : w1 = true := by simpa using h5
          refine mGo_run (n := 400) ok rfl ?_
          exact mGo_ret ok rfl trivial (⟨by rw [hv1 e5], rfl, fP, hFf, hDf⟩)
      refine mGo_run (n := 400) ok rfl ?_
      refine mGo_ifI ok rfl (nI_eq (a := rpN F q) (b := 0) (by omega) (by omega)) (fun h6 => ?_) (fun h6 => ?_)
      · refine mGo_runS 68 (n := 400) ok rfl ?_
        exact cont 1 (by rw [hw.mp h6]; rfl)
      · refine mGo_runS 68 (n := 400) ok rfl ?_
        exact cont 0 (by
          cases w1 with
          | false => rfl
          | true => exact absurd (hw.mpr rfl) h6)
    have go : (rpN F q ≠ 0 → 0 ≤ r ∧ r < nI (rpN F q)) → mGo g l (d + 4) md_X9_playOne (SH lk ex).length (mTot (SH lk ex)) (37, [some (.ref 48), some (.int (nI i)), some (.int r), some (.int (nI (rpN F q)))], [], SH lk ex, σ2) (fun r1 sp σ1 => r1 = some (.int (aPl F k man ps (nI i) r).1) ∧ sp = SH lk ex ∧ (frP σ σ1 ∧ mF σ1 F ∧ rD σ1 true (aPl F k man ps (nI i) r).2.1 (aPl F k man ps (nI i) r).2.2.1 man (aPl F k man ps (nI i) r).2.2.2)) := by
      intro hr
      refine mGo_run (n := 400) ok rfl ?_
      rw [g2]
      refine mGo_ifI ok rfl (nI_eq (a := k) (b := 20) (by omega) (by omega)) (fun h2 => ?_) (fun h2 => ?_)
      · have ef : aPl F k man ps (nI i) r = (-3, false, k, ps) := by
          unfold aPl
          rw [e1]
          by_cases y : rpN F q = 0
          · simp only [if_pos y, if_pos h2]
          · simp only [if_neg y, if_pos h2]
            rw [if_neg (fun t => t (hr y))]
        rw [ef]
        refine mGo_run (n := 400) ok rfl ?_
        exact mGo_ret ok rfl trivial (⟨rfl, rfl, (frP_L hl2).1, hF2, hl2.rD hD⟩)
      · refine mGo_run (n := 400) ok rfl ?_
        refine mGo_ifI ok rfl (nI_leI (a := rpN F q) (b := 0) (by omega) (by omega)) (fun h3 => ?_) (fun h3 => ?_)
        · have h3 : rpN F q = 0 := by omega
          have ea : aPl F k man ps (nI i) r = (1000, true, k + 1, upP ps (k + 1) (ps k)) := by
            unfold aPl; rw [e1]; simp only [if_pos h3]; rw [if_neg (by omega)]
          rw [ea]
          exact fin σ2 true (ps k) 1000 hl2 hq2 ⟨fun _ => rfl, fun _ => h3⟩ (by omega) (fun _ => rfl) (fun z => Bool.noConfusion z)
        · have h3 : rpN F q ≠ 0 := by omega
          obtain ⟨ra, rb⟩ := hr h3
          obtain ⟨rn, hrn, rfl⟩ := (i_in (n := rpN F q) (by omega)).mp ⟨ra, rb⟩
          have ea : aPl F k man ps (nI i) (nI rn) = (nI (mvs F (rpP F man (ps k).1 (ps k).2 q rn).1 (rpP F man (ps k).1 (ps k).2 q rn).2).length, false, k + 1, upP ps (k + 1) (rpP F man (ps k).1 (ps k).2 q rn)) := by
            unfold aPl; rw [e1]; simp only [if_neg h3]; rw [if_neg (fun t => t (hr h3)), if_neg (by omega), nI_clamp (by omega)]
          rw [ea]
          refine mGo_run (n := 400) ok rfl ?_
          refine mGo_callV ok rfl (by omega) (m_reply (d := d) hf hF2 hq2 g3 hm1 hv2 ho hrn) (fun σ3 hσ3 => ?_)
          exact fin σ3 false _ _ (hl2.trans ⟨hσ3.1, hσ3.2.1.wide (by decide)⟩) hσ3.2.2 ⟨fun z => absurd z h3, fun z => Bool.noConfusion z⟩ (by omega) (fun z => Bool.noConfusion z) (fun _ => rfl)
    refine mGo_ifI ok rfl (nI_leI (a := rpN F q) (b := 0) (by omega) (by omega)) (fun h2 => ?_) (fun h2 => ?_)
    · exact go (fun z => by omega)
    · refine mGo_run (n := 400) ok rfl ?_
      refine mGo_callP ok rfl (by omega) (m_isIn (d := d) r 0 (nI (rpN F q) - 1)) ?_
      have el := i_le1 (f := r) (n := rpN F q) (by omega) (by omega)
      by_cases hg : 0 ≤ r ∧ r < nI (rpN F q)
      · rw [if_pos ⟨hg.1, el.mpr hg.2⟩]
        refine mGo_if ok rfl (fun h3 => ?_) (fun h3 => ?_)
        · exact absurd h3 (by decide)
        · exact go (fun _ => hg)
      · rw [if_neg (fun z => hg ⟨z.1, el.mp z.2⟩)]
        have ea : aPl F k man ps (nI i) r = (-1, false, k, ps) := by
          unfold aPl; rw [e1]; simp only [if_neg (show ¬ rpN F q = 0 by omega)]; rw [if_pos hg]
        rw [ea]
        refine mGo_if ok rfl (fun h3 => ?_) (fun h3 => ?_)
        · refine mGo_run (n := 400) ok rfl ?_
          exact mGo_ret ok rfl trivial (⟨rfl, rfl, (frP_L hl2).1, hF2, hl2.rD hD⟩)
        · exact absurd rfl h3
theorem y_play (hf : fOk F) (hm : mF σ F) (hD : rD σ bg w k man ps) (hk : k ≤ 20) (hm1 : man ≤ 1) (m r : Int32) : mNR g l (d + 5) 179 [.ref 48, .int m, .int r] lk ex σ (.int (qPlay F bg w k man ps m r).1) (fun σ1 => frP σ σ1 ∧ mF σ1 F ∧ rD σ1 bg (qPlay F bg w k man ps m r).2.1 (qPlay F bg w k man ps m r).2.2.1 man (qPlay F bg w k man ps m r).2.2.2) := by
  have ok : mOkP md_X9_play := ok_at 179 (by decide) rfl
  refine mC_of (md := md_X9_play) rfl (lt_at (by decide)) rfl ?_
  unfold qPlay
  refine mGo_run (n := 400) ok rfl ?_
  refine mGo_callP ok rfl (by omega) (m_isPlaying (d := d) hD) ?_
  refine mGo_ifI ok rfl (bI_0) (fun h => ?_) (fun h => ?_)
  · rw [if_neg (by rw [h]; simp)]
    refine mGo_run (n := 400) ok rfl ?_
    exact mGo_ret ok rfl trivial (⟨rfl, rfl, ⟨fq.refl, fm.refl⟩, hm, hD⟩)
  · have e : (bg && !w) = true := by simpa using h
    rw [if_pos e]
    obtain ⟨rfl, rfl⟩ := on_bg e
    refine mGo_run (n := 400) ok rfl ?_
    refine mGo_callR ok rfl (by omega) (m_playOne (d := d) hf hm hD hk hm1 m r) (fun σ1 hσ1 => ?_)
    refine mGo_run (n := 400) ok rfl ?_
    exact mGo_ret ok rfl trivial (⟨rfl, rfl, hσ1⟩)
theorem y_takeBack (hf : fOk F) (hm : mF σ F) (hD : rD σ bg w k man ps) (hk : k ≤ 20) : mNR g l d 180 [.ref 48] lk ex σ (.int (if bg = true ∧ 0 < k then nI (k - 1) else -5)) (fun σ1 => frP σ σ1 ∧ mF σ1 F ∧ if bg = true ∧ 0 < k then rD σ1 true false (k - 1) man ps else rD σ1 bg w k man ps) := by
  have hD0 := hD
  obtain ⟨d1, d2⟩ := hD0
  have ok : mOkP md_X9_takeBack := ok_at 180 (by decide) rfl
  refine mC_of (md := md_X9_takeBack) rfl (lt_at (by decide)) rfl ?_
  have no : ¬ (bg = true ∧ 0 < k) → mGo g l d md_X9_takeBack (SH lk ex).length (mTot (SH lk ex)) (14, [some (.ref 48)], [], SH lk ex, σ) (fun r1 sp σ1 => r1 = some (.int (if bg = true ∧ 0 < k then nI (k - 1) else -5)) ∧ sp = SH lk ex ∧ (frP σ σ1 ∧ mF σ1 F ∧ if bg = true ∧ 0 < k then rD σ1 true false (k - 1) man ps else rD σ1 bg w k man ps)) := by
    intro z
    refine mGo_run (n := 400) ok rfl ?_
    exact mGo_ret ok rfl trivial (⟨by rw [if_neg z], rfl, ⟨fq.refl, fm.refl⟩, hm, by rw [if_neg z]; exact hD⟩)
  refine mGo_run (n := 400) ok rfl ?_
  rw [d1]
  refine mGo_ifI ok rfl (bI_0) (fun h => ?_) (fun h => ?_)
  · exact no (fun z => by rw [z.1] at h; exact Bool.noConfusion h)
  · have eb : bg = true := by simpa using h
    obtain ⟨g1, g2, g3, g4⟩ := d2 eb
    refine mGo_run (n := 400) ok rfl ?_
    rw [g2]
    refine mGo_ifI ok rfl (nI_eq (a := k) (b := 0) (by omega) (by omega)) (fun h1 => ?_) (fun h1 => ?_)
    · exact no (fun z => by omega)
    · have hc : bg = true ∧ 0 < k := ⟨eb, by omega⟩
      refine mGo_run (n := 400) ok rfl ?_
      rw [g2, show nI k - 1 = nI (k - 1) by have := nI_pred (k - 1); rw [show k - 1 + 1 = k by omega] at this; exact this]
      refine mGo_side ok rfl (Or.inl rfl) ?_
      refine mGo_run (n := 400) ok rfl ?_
      rw [show (mWI (mWI σ 48 26 (nI (k - 1))) 48 25 0).1 48 26 = nI (k - 1) by simp [WI_at]]
      refine mGo_ret ok rfl trivial ⟨by rw [if_pos hc], rfl, ⟨⟨(fr.refl.WI (by decide) (by decide)).WI (by decide) (by decide), ((((fr.refl (lo := 48) (hi := 49) (σ := σ)).WI (i := 48) (k := 26) (v := nI (k - 1)) (by decide) (by decide)).WI (i := 48) (k := 25) (v := 0) (by decide) (by decide)) 52 (by omega)).1⟩, (fm.refl.WI (fun _ => by decide)).WI (fun _ => by decide)⟩, ⟨?_, fun j hj => hm.2 j hj⟩, ?_⟩
      · simp only [WI_at]; exact hm.1
      · rw [if_pos hc]
        refine ⟨?_, fun _ => ⟨?_, ?_, ?_, fun i hi => g4 i (by omega)⟩⟩
        · rw [WI_at, if_neg (by omega), WI_at, if_neg (by omega), d1, eb]
        · rw [WI_at, if_pos ⟨rfl, rfl⟩]; rfl
        · rw [WI_at, if_neg (by omega), WI_at, if_pos ⟨rfl, rfl⟩]
        · rw [WI_at, if_neg (by omega), WI_at, if_neg (by omega)]; exact g3
end T
