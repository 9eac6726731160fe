/-! the dialogue: public methods of the class -/
abbrev qMan (m : Int32) : Prop := m = 0 ∨ m = 1
theorem qMan_n {m : Int32} (h : qMan m) : ∃ j : Nat, j ≤ 1 ∧ m = nI j := by
  rcases h with rfl | rfl
  · exact ⟨0, by decide, rfl⟩
  · exact ⟨1, by decide, rfl⟩
/-- begin: the answer, and the position if a dialogue begins -/
def qBeg (F : aF) (f m r : Int32) : Int32 × Option (Nat × Int64 × Int64) :=
  if ¬ (0 ≤ f ∧ f < nI (aN F)) then (-2, none)
  else if ¬ (qMan m ∧ 0 ≤ r ∧ r < nI (atk (aK F f.toNatClampNeg))) then (-1, none)
  else (nI (mvs F (atP2 F m.toNatClampNeg 0 0 f.toNatClampNeg r.toNatClampNeg).1 (atP2 F m.toNatClampNeg 0 0 f.toNatClampNeg r.toNatClampNeg).2).length, some (m.toNatClampNeg, atP2 F m.toNatClampNeg 0 0 f.toNatClampNeg r.toNatClampNeg))
theorem atk_le (k : Nat) : atk k ≤ 2 := by unfold atk; split <;> (try split) <;> omega
section T
variable {g : mG} {l : Launch} {d : Nat} {lk : Nat} {ex : mSh} {σ : mHp} {F : aF} {bg w : Bool} {k man : Nat} {ps : Nat → Int64 × Int64}
theorem c_isManner (m : Int32) : mNP g l d 111 [.int m] lk ex σ (.int (if qMan m then 1 else 0)) := by
  have ok : mOkP md_X8_isManner := ok_at 111 (by decide) rfl
  refine mC_of (md := md_X8_isManner) rfl (lt_at (by decide)) rfl ?_
  refine mGo_run (n := 400) ok rfl ?_
  refine mGo_if ok rfl (fun h => ?_) (fun h => ?_)
  · refine mGo_run (n := 400) ok rfl ?_
    exact mGo_ret ok rfl (Or.inr rfl) (⟨by rw [if_pos (Or.inl h)], rfl, rfl⟩)
  · refine mGo_run (n := 400) ok rfl ?_
    refine mGo_if ok rfl (fun h1 => ?_) (fun h1 => ?_)
    · refine mGo_run (n := 400) ok rfl ?_
      exact mGo_ret ok rfl (Or.inr rfl) (⟨by rw [if_pos (Or.inr h1)], rfl, rfl⟩)
    · refine mGo_run (n := 400) ok rfl ?_
      exact mGo_ret ok rfl (Or.inl rfl) (⟨by rw [if_neg (by rintro (z | z); exact h z; exact h1 z)], rfl, rfl⟩)
theorem m_isManner (m : Int32) : mNP g l d 166 [.int m] lk ex σ (.int (if qMan m then 1 else 0)) := by
  have ok : mOkP md_X9_isManner := ok_at 166 (by decide) rfl
  refine mC_of (md := md_X9_isManner) rfl (lt_at (by decide)) rfl ?_
  refine mGo_run (n := 400) ok rfl ?_
  refine mGo_if ok rfl (fun h => ?_) (fun h => ?_)
  · refine mGo_run (n := 400) ok rfl ?_
    exact mGo_ret ok rfl (Or.inr rfl) (⟨by rw [if_pos (Or.inl h)], rfl, rfl⟩)
  · refine mGo_run (n := 400) ok rfl ?_
    refine mGo_if ok rfl (fun h1 => ?_) (fun h1 => ?_)
    · refine mGo_run (n := 400) ok rfl ?_
      exact mGo_ret ok rfl (Or.inr rfl) (⟨by rw [if_pos (Or.inr h1)], rfl, rfl⟩)
    · refine mGo_run (n := 400) ok rfl ?_
      exact mGo_ret ok rfl (Or.inl rfl) (⟨by rw [if_neg (by rintro (z | z); exact h z; exact h1 z)], rfl, rfl⟩)
theorem c_stepBack (hf : fOk F) (hc : cF σ F) (hD : cD σ F bg w k man ps) (hk : k ≤ 20) (hb : bg = true ∧ 0 < k) : mNR g l (d + 4) 16 [.ref 15] lk ex σ (.int 1) (fun σ1 => fr 15 21 σ σ1 ∧ cD σ1 F true false (k - 1) man ps) := by
  obtain ⟨rfl, h0⟩ := hb
  obtain ⟨d1, d2, d3, d4⟩ := hD
  obtain ⟨f1, f2, f3, f4, f5⟩ := d4 rfl
  rw [if_pos rfl] at d3
  obtain ⟨g1, g2⟩ := f1 (k - 1) (by omega)
  have ok : mOkP md_X1_stepBack := ok_at 16 (by decide) rfl
  refine mC_of (md := md_X1_stepBack) rfl (lt_at (by decide)) rfl ?_
  refine mGo_run (n := 400) ok rfl ?_
  rw [d3]
  refine mGo_ifI ok rfl (nI_leI (a := k) (b := 0) (by omega) (by omega)) (fun h => ?_) (fun h => ?_)
  · omega
  · refine mGo_run (n := 400) ok rfl ?_
    rw [d3]
    refine mGo_ifI ok rfl (nI_leI (a := k) (b := 20) (by omega) (by omega)) (fun h1 => ?_) (fun h1 => ?_)
    · refine mGo_run (n := 400) ok rfl ?_
      rw [d3, show nI k - 1 = nI (k - 1) by have := nI_pred (k - 1); rw [show k - 1 + 1 = k by omega] at this; exact this]
      refine mGo_side ok rfl (Or.inl rfl) ?_
      refine mGo_run (n := 400) ok rfl ?_
      rw [show (mWI (mWI σ 15 3 (nI (k - 1))) 15 5 0).1 15 3 = nI (k - 1) by simp [WI_at]]
      refine mGo_side ok rfl (nI_in (by omega) (by omega)) ?_
      rw [nI_clamp (by omega), show (mWI (mWI σ 15 3 (nI (k - 1))) 15 5 0).2.1 16 (k - 1) = (ps (k - 1)).1 from g1]
      refine mGo_run (n := 400) ok rfl ?_
      rw [show (mWI (mWI σ 15 3 (nI (k - 1))) 15 5 0).1 15 3 = nI (k - 1) by simp [WI_at]]
      refine mGo_side ok rfl (nI_in (by omega) (by omega)) ?_
      rw [nI_clamp (by omega), show (mWI (mWI σ 15 3 (nI (k - 1))) 15 5 0).2.1 17 (k - 1) = (ps (k - 1)).2 from g2]
      have fr0 : fr 15 21 σ (mWI (mWI σ 15 3 (nI (k - 1))) 15 5 0) := (fr.refl.WI (by decide) (by decide)).WI (by decide) (by decide)
      refine mGo_callV ok rfl (by omega) (c_setUp18 (d := d) hf (cF_fr fr0 (Or.inl (by decide)) hc) (ps (k - 1)).1 (ps (k - 1)).2) (fun σ1 hσ1 => ?_)
      obtain ⟨s1, s2, s3, s4, s5, s6⟩ := hσ1
      have e15 := (s1 15 (by decide)).1
      have e16 := (s1 16 (by decide)).2.1
      have e17 := (s1 17 (by decide)).2.1
      refine mGo_run (n := 400) ok rfl ?_
      refine mGo_ret ok rfl (Or.inr rfl) ⟨rfl, rfl, fr0.trans (s1.wide (by decide) (by decide)), ?_, ?_, ?_, fun _ => ⟨fun i hi => ?_, ?_, s3, s4, s6⟩⟩
      · rw [e15, WI_at, if_neg (by omega), WI_at, if_neg (by omega)]; exact d1
      · rw [e15, WI_at, if_pos ⟨rfl, rfl⟩]; rfl
      · rw [e15, WI_at, if_neg (by omega), WI_at, if_pos ⟨rfl, rfl⟩, if_pos rfl]
      · rw [e16, e17]; exact f1 i (by omega)
      · rw [s2 4 (by decide), WI_at, if_neg (by omega), WI_at, if_neg (by omega)]; exact f2
    · omega
theorem c_stepBack0 (hD : cD σ F bg w k man ps) (hk : k ≤ 20) (hb : ¬ (bg = true ∧ 0 < k)) : mNP g l d 16 [.ref 15] lk ex σ (.int 0) := by
  obtain ⟨d1, d2, d3, d4⟩ := hD
  have e : (if bg = true then k else 0) = 0 := by
    by_cases z : bg = true
    · rw [if_pos z]
      rcases Nat.eq_zero_or_pos k with y | y
      · exact y
      · exact absurd ⟨z, y⟩ hb
    · rw [if_neg z]
  rw [e] at d3
  have ok : mOkP md_X1_stepBack := ok_at 16 (by decide) rfl
  refine mC_of (md := md_X1_stepBack) rfl (lt_at (by decide)) rfl ?_
  refine mGo_run (n := 400) ok rfl ?_
  rw [d3]
  refine mGo_if ok rfl (fun h => ?_) (fun h => ?_)
  · refine mGo_run (n := 400) ok rfl ?_
    exact mGo_ret ok rfl (Or.inl rfl) (⟨rfl, rfl, rfl⟩)
  · exact absurd (by decide) h
theorem x_begin (hf : fOk F) (hc : cF σ F) (hD : cD σ F bg w k man ps) (f m r : Int32) : mNR g l (d + 5) 93 [.ref 0, .int f, .int m, .int r] lk ex σ (.int (qBeg F f m r).1) (fun σ1 => fr 15 21 σ σ1 ∧ match (qBeg F f m r).2 with
    | none => cD σ1 F bg w k man ps
    | some p => cD σ1 F true false 0 p.1 (fun _ => p.2)) := by
  have hn := hf.2.1
  have ok : mOkP md_X8_begin := ok_at 93 (by decide) rfl
  refine mC_of (md := md_X8_begin) rfl (lt_at (by decide)) rfl ?_
  refine mGo_run (n := 400) ok rfl ?_
  by_cases hfm : 0 ≤ f ∧ f < nI (aN F)
  · obtain ⟨j, hj, rfl⟩ := (i_in (by omega)).mp hfm
    have ha := atk_le (aK F j)
    refine mGo_callP ok rfl (by omega) (c_has1 (d := d) hc.1 hf.2.1 hj) ?_
    refine mGo_if ok rfl (fun h => ?_) (fun h => ?_)
    · exact absurd h (by decide)
    · have bad : ¬ (qMan m ∧ 0 ≤ r ∧ r < nI (atk (aK F j))) → mGo g l (d + 5) md_X8_begin (SH lk ex).length (mTot (SH lk ex)) (37, [some (.ref 0), some (.int (nI j)), some (.int m), some (.int r)], [], SH lk ex, σ) (fun r1 sp σ1 => r1 = some (.int (qBeg F (nI j) m r).1) ∧ sp = SH lk ex ∧ (fr 15 21 σ σ1 ∧ match (qBeg F (nI j) m r).2 with
          | none => cD σ1 F bg w k man ps
          | some p => cD σ1 F true false 0 p.1 (fun _ => p.2))) := by
        intro hb
        have eq : qBeg F (nI j) m r = (-1, none) := by
          unfold qBeg
          rw [if_neg (fun z => z hfm), if_pos (by rw [nI_clamp (by omega)]; exact hb)]
        rw [eq]
        refine mGo_run (n := 400) ok rfl ?_
        exact mGo_ret ok rfl trivial (⟨rfl, rfl, fr.refl, hD⟩)
      refine mGo_run (n := 400) ok rfl ?_
      refine mGo_callP ok rfl (by omega) (c_isManner (d := d) m) ?_
      refine mGo_if ok rfl (fun h1 => ?_) (fun h1 => ?_)
      · exact bad (fun z => by rw [if_pos z.1] at h1; exact absurd h1 (by decide))
      · have hm : qMan m := by
          by_cases z : qMan m
          · exact z
          · rw [if_neg z] at h1; exact absurd rfl h1
        refine mGo_run (n := 400) ok rfl ?_
        refine mGo_if ok rfl (fun h2 => ?_) (fun h2 => ?_)
        · exact bad (fun z => absurd h2 (Int32.not_lt.mpr z.2.1))
        · refine mGo_run (n := 400) ok rfl ?_
          refine mGo_callP ok rfl (by omega) (c_attacksOn (d := d) hf hc hj) ?_
          refine mGo_if ok rfl (fun h3 => ?_) (fun h3 => ?_)
          · have hg : qMan m ∧ 0 ≤ r ∧ r < nI (atk (aK F j)) := ⟨hm, Int32.not_lt.mp h2, h3⟩
            obtain ⟨rn, hrn, rfl⟩ := (i_in (n := atk (aK F j)) (by omega)).mp hg.2
            obtain ⟨mn, hmn, rfl⟩ := qMan_n hm
            have eq : qBeg F (nI j) (nI mn) (nI rn) = (nI (mvs F (atP2 F mn 0 0 j rn).1 (atP2 F mn 0 0 j rn).2).length, some (mn, atP2 F mn 0 0 j rn)) := by
              unfold qBeg
              rw [if_neg (fun z => z hfm), if_neg (by rw [nI_clamp (n := j) (by omega)]; exact fun z => z hg), nI_clamp (n := j) (by omega), nI_clamp (n := mn) (by omega), nI_clamp (n := rn) (by omega)]
            rw [eq]
            have k0 : aK F j ≠ 0 := fun z => by rw [z] at hrn; exact absurd hrn (by simp [atk])
            refine mGo_run (n := 400) ok rfl ?_
            refine mGo_callV ok rfl (by omega) (c_open (d := d) hf hc hj k0 hmn (by omega)) (fun σ1 hσ1 => ?_)
            refine mGo_run (n := 400) ok rfl ?_
            rw [((hσ1.2.2.2.2 rfl).2.2.2.2).1]
            exact mGo_ret ok rfl trivial (⟨rfl, rfl, hσ1⟩)
          · exact bad (fun z => h3 z.2.2)
  · have eq : qBeg F f m r = (-2, none) := by unfold qBeg; rw [if_pos hfm]
    rw [eq]
    refine mGo_callP ok rfl (by omega) (c_has0 (d := d) hc.1 hf.2.1 (fun z => hfm ((i_in (by omega)).mpr z))) ?_
    refine mGo_if ok rfl (fun h => ?_) (fun h => ?_)
    · refine mGo_run (n := 400) ok rfl ?_
      exact mGo_ret ok rfl trivial (⟨rfl, rfl, fr.refl, hD⟩)
    · exact absurd rfl h
theorem bI_0 {b : Bool} : bI b = 0 ↔ b = false := by cases b <;> decide
theorem x_claims (hD : cD σ F bg w k man ps) : mNP g l (d + 1) 94 [.ref 0] lk ex σ (.long (if (bg && !w) = true then (ps k).1 else -9223372036854775808)) := by
  have ok : mOkP md_X8_claims := ok_at 94 (by decide) rfl
  refine mC_of (md := md_X8_claims) rfl (lt_at (by decide)) rfl ?_
  refine mGo_run (n := 400) ok rfl ?_
  refine mGo_callP ok rfl (by omega) (c_isOn (d := d) hD) ?_
  refine mGo_ifI ok rfl (bI_0) (fun h => ?_) (fun h => ?_)
  · refine mGo_run (n := 400) ok rfl ?_
    exact mGo_ret ok rfl trivial (⟨by rw [h]; rfl, rfl, rfl⟩)
  · have e : (bg && !w) = true := by simpa using h
    have eb : bg = true := by cases bg; simp at e; rfl
    refine mGo_run (n := 400) ok rfl ?_
    rw [(hD.2.2.2 eb).2.2.1]
    exact mGo_ret ok rfl trivial (⟨by rw [if_pos e], rfl, rfl⟩)
theorem x_defences (hD : cD σ F bg w k man ps) : mNP g l (d + 1) 95 [.ref 0] lk ex σ (.long (if (bg && !w) = true then (ps k).2 else -9223372036854775808)) := by
  have ok : mOkP md_X8_defences := ok_at 95 (by decide) rfl
  refine mC_of (md := md_X8_defences) rfl (lt_at (by decide)) rfl ?_
  refine mGo_run (n := 400) ok rfl ?_
  refine mGo_callP ok rfl (by omega) (c_isOn (d := d) hD) ?_
  refine mGo_ifI ok rfl (bI_0) (fun h => ?_) (fun h => ?_)
  · refine mGo_run (n := 400) ok rfl ?_
    exact mGo_ret ok rfl trivial (⟨by rw [h]; rfl, rfl, rfl⟩)
  · have e : (bg && !w) = true := by simpa using h
    have eb : bg = true := by cases bg; simp at e; rfl
    refine mGo_run (n := 400) ok rfl ?_
    rw [(hD.2.2.2 eb).2.2.2.1]
    exact mGo_ret ok rfl trivial (⟨by rw [if_pos e], rfl, rfl⟩)
theorem x_moveCount (hD : cD σ F bg w k man ps) : mNP g l (d + 1) 96 [.ref 0] lk ex σ (.int (if (bg && !w) = true then nI (mvs F (ps k).1 (ps k).2).length else -7)) := by
  have ok : mOkP md_X8_moveCount := ok_at 96 (by decide) rfl
  refine mC_of (md := md_X8_moveCount) rfl (lt_at (by decide)) rfl ?_
  refine mGo_run (n := 400) ok rfl ?_
  refine mGo_callP ok rfl (by omega) (c_isOn (d := d) hD) ?_
  refine mGo_ifI ok rfl (bI_0) (fun h => ?_) (fun h => ?_)
  · refine mGo_run (n := 400) ok rfl ?_
    exact mGo_ret ok rfl trivial (⟨by rw [h]; rfl, rfl, rfl⟩)
  · have e : (bg && !w) = true := by simpa using h
    have eb : bg = true := by cases bg; simp at e; rfl
    refine mGo_run (n := 400) ok rfl ?_
    rw [(hD.2.2.2 eb).2.2.2.2.1]
    exact mGo_ret ok rfl trivial (⟨by rw [if_pos e], rfl, rfl⟩)
/-- what is told of a move -/
def qMove (F : aF) (p : Int64 × Int64) (m x : Int32) : Int32 := if ¬ (0 ≤ x ∧ x ≤ 2) then -1 else match mvA (mvs F p.1 p.2) m with
  | none => -5
  | some q => if x = 0 then nI q.1 else if x = 1 then nI q.2 else nI (rpN F q)
theorem x_move (hf : fOk F) (hc : cF σ F) (hD : cD σ F bg w k man ps) (m x : Int32) : mNP g l (d + 3) 97 [.ref 0, .int m, .int x] lk ex σ (.int (if (bg && !w) = true then qMove F (ps k) m x else -7)) := by
  have hml := mvs_len hf (ps k).1 (ps k).2
  have ok : mOkP md_X8_move := ok_at 97 (by decide) rfl
  refine mC_of (md := md_X8_move) rfl (lt_at (by decide)) rfl ?_
  refine mGo_run (n := 400) ok rfl ?_
  refine mGo_callP ok rfl (by omega) (c_isOn (d := d) hD) ?_
  refine mGo_ifI ok rfl (bI_0) (fun h => ?_) (fun h => ?_)
  · refine mGo_run (n := 400) ok rfl ?_
    exact mGo_ret ok rfl trivial (⟨by rw [h]; rfl, rfl, rfl⟩)
  · have e : (bg && !w) = true := by simpa using h
    have eb : bg = true := by cases bg; simp at e; rfl
    obtain ⟨f1, f2, f3, f4, f5⟩ := hD.2.2.2 eb
    rw [if_pos e]
    have bad : ¬ (0 ≤ x ∧ x ≤ 2) → mGo g l (d + 3) md_X8_move (SH lk ex).length (mTot (SH lk ex)) (22, [some (.ref 0), some (.int m), some (.int x), none], [], SH lk ex, σ) (fun r1 sp σ1 => r1 = some (.int (qMove F (ps k) m x)) ∧ sp = SH lk ex ∧ σ1 = σ) := by
      intro hb
      refine mGo_run (n := 400) ok rfl ?_
      exact mGo_ret ok rfl trivial (⟨by unfold qMove; rw [if_pos hb], rfl, rfl⟩)
    refine mGo_run (n := 400) ok rfl ?_
    refine mGo_if ok rfl (fun h1 => ?_) (fun h1 => ?_)
    · exact bad (fun z => absurd h1 (Int32.not_lt.mpr z.1))
    · refine mGo_run (n := 400) ok rfl ?_
      refine mGo_if ok rfl (fun h2 => ?_) (fun h2 => ?_)
      · have hg : 0 ≤ x ∧ x ≤ 2 := ⟨Int32.not_lt.mp h1, h2⟩
        refine mGo_run (n := 400) ok rfl ?_
        rcases mvA_cases (mvs F (ps k).1 (ps k).2) hml m with ⟨e1, e2⟩ | ⟨i, q, rfl, hi, e1⟩
        · refine mGo_callP ok rfl (by omega) (c_hasMove018 (d := d) f5.1 (by omega) e2) ?_
          refine mGo_if ok rfl (fun h3 => ?_) (fun h3 => ?_)
          · refine mGo_run (n := 400) ok rfl ?_
            exact mGo_ret ok rfl trivial (⟨by unfold qMove; rw [if_neg (fun z => z hg), e1], rfl, rfl⟩)
          · exact absurd rfl h3
        · have hil := (List.getElem?_eq_some_iff.mp hi).1
          have ho := mvs_at hf hi
          obtain ⟨b1, b2⟩ := f5.2 i q hi
          have ev : qMove F (ps k) (nI i) x = if x = 0 then nI q.1 else if x = 1 then nI q.2 else nI (rpN F q) := by unfold qMove; rw [if_neg (fun z => z hg), e1]
          rw [ev]
          refine mGo_callP ok rfl (by omega) (c_hasMove118 (d := d) f5.1 (by omega) hil) ?_
          refine mGo_if ok rfl (fun h3 => ?_) (fun h3 => ?_)
          · exact absurd h3 (by decide)
          · refine mGo_run (n := 400) ok rfl ?_
            refine mGo_if ok rfl (fun h4 => ?_) (fun h4 => ?_)
            · refine mGo_run (n := 400) ok rfl ?_
              refine mGo_callP ok rfl (by omega) (c_repliesTo18 (d := d) hf hc f5 (by omega) hi ho) ?_
              refine mGo_run (n := 400) ok rfl ?_
              exact mGo_ret ok rfl trivial (⟨by rw [h4, if_neg (by decide), if_neg (by decide)], rfl, rfl⟩)
            · refine mGo_run (n := 400) ok rfl ?_
              refine mGo_if ok rfl (fun h5 => ?_) (fun h5 => ?_)
              · refine mGo_run (n := 400) ok rfl ?_
                refine mGo_side ok rfl (nI_in (by omega) (by omega)) ?_
                rw [nI_clamp (by omega), b1]
                refine mGo_run (n := 400) ok rfl ?_
                exact mGo_ret ok rfl trivial (⟨by rw [if_pos h5], rfl, rfl⟩)
              · have e5 : x = 1 := by
                  obtain ⟨n, hn, rfl⟩ := nI_of2 (n := 2) (M := 2) (by decide) (Int32.not_lt.mpr hg.1) hg.2
                  have n0 : n ≠ 0 := fun z => h5 (by rw [z]; rfl)
                  have n2 : n ≠ 2 := fun z => h4 (by rw [z]; rfl)
                  rw [show n = 1 by omega]; rfl
                refine mGo_run (n := 400) ok rfl ?_
                refine mGo_side ok rfl (nI_in (by omega) (by omega)) ?_
                rw [nI_clamp (by omega), b2]
                refine mGo_run (n := 400) ok rfl ?_
                exact mGo_ret ok rfl trivial (⟨by rw [if_neg h5, if_pos e5], rfl, rfl⟩)
      · exact bad (fun z => h2 z.2)
/-- play and take back: the answer and the dialogue afterwards -/
def qPlay (F : aF) (bg w : Bool) (k man : Nat) (ps : Nat → Int64 × Int64) (m r : Int32) : Int32 × Bool × Nat × (Nat → Int64 × Int64) := if (bg && !w) = true then aPl F k man ps m r else (-7, w, k, ps)
theorem c_advance0 (hD : cD σ F bg w k man ps) (hb : ¬ (bg && !w) = true) (m r : Int32) : mNP g l (d + 1) 15 [.ref 15, .int m, .int r] lk ex σ (.int (-7)) := by
  have ok : mOkP md_X1_advance := ok_at 15 (by decide) rfl
  refine mC_of (md := md_X1_advance) rfl (lt_at (by decide)) rfl ?_
  refine mGo_run (n := 400) ok rfl ?_
  refine mGo_callP ok rfl (by omega) (c_isOn (d := d) hD) ?_
  refine mGo_ifI ok rfl (bI_0) (fun h => ?_) (fun h => ?_)
  · refine mGo_run (n := 400) ok rfl ?_
    exact mGo_ret ok rfl trivial (⟨rfl, rfl, rfl⟩)
  · exact absurd (by simpa using h) hb
theorem c_advanceq (hf : fOk F) (hc : cF σ F) (hD : cD σ F bg w k man ps) (hk : k ≤ 20) (hm1 : man ≤ 1) (m r : Int32) : mNR g l (d + 4) 15 [.ref 15, .int m, .int r] lk ex σ (.int (qPlay F bg w k man ps m r).1) (fun σ1 => fr 15 21 σ σ1 ∧ cD σ1 F bg (qPlay F bg w k man ps m r).2.1 (qPlay F bg w k man ps m r).2.2.1 man (qPlay F bg w k man ps m r).2.2.2) := by
  unfold qPlay
  by_cases h : (bg && !w) = true
  · rw [if_pos h]
    have eb : bg = true := by cases bg; simp at h; rfl
    have ew : w = false := by cases w; rfl; simp at h
    subst eb; subst ew
    exact c_advance (d := d) hf hc hD hk hm1 m r
  · rw [if_neg h]
    exact (c_advance0 (d := d + 3) hD h m r).post rfl (fun σ1 e => by rw [e]; exact ⟨fr.refl, hD⟩)
theorem x_play (hf : fOk F) (hc : cF σ F) (hD : cD σ F bg w k man ps) (hk : k ≤ 20) (hm1 : man ≤ 1) (m r : Int32) : mNR g l (d + 5) 98 [.ref 0, .int m, .int r] lk ex σ (.int (qPlay F bg w k man ps m r).1) (fun σ1 => fr 15 21 σ σ1 ∧ cD σ1 F bg (qPlay F bg w k man ps m r).2.1 (qPlay F bg w k man ps m r).2.2.1 man (qPlay F bg w k man ps m r).2.2.2) := by
  have ok : mOkP md_X8_play := ok_at 98 (by decide) rfl
  refine mC_of (md := md_X8_play) rfl (lt_at (by decide)) rfl ?_
  refine mGo_run (n := 400) ok rfl ?_
  refine mGo_callR ok rfl (by omega) (c_advanceq (d := d) hf hc hD hk hm1 m r) (fun σ1 hσ1 => ?_)
  refine mGo_run (n := 400) ok rfl ?_
  exact mGo_ret ok rfl trivial (⟨rfl, rfl, hσ1⟩)
theorem x_takeBack (hf : fOk F) (hc : cF σ F) (hD : cD σ F bg w k man ps) (hk : k ≤ 20) : mNR g l (d + 5) 99 [.ref 0] lk ex σ (.int (if bg = true ∧ 0 < k then nI (k - 1) else -5)) (fun σ1 => fr 15 21 σ σ1 ∧ if bg = true ∧ 0 < k then cD σ1 F true false (k - 1) man ps else cD σ1 F bg w k man ps) := by
  have ok : mOkP md_X8_takeBack := ok_at 99 (by decide) rfl
  refine mC_of (md := md_X8_takeBack) rfl (lt_at (by decide)) rfl ?_
  refine mGo_run (n := 400) ok rfl ?_
  by_cases h : bg = true ∧ 0 < k
  · refine mGo_callR ok rfl (by omega) (c_stepBack (d := d) hf hc hD hk h) (fun σ1 hσ1 => ?_)
    refine mGo_if ok rfl (fun h1 => ?_) (fun h1 => ?_)
    · exact absurd h1 (by decide)
    · refine mGo_run (n := 400) ok rfl ?_
      have e := hσ1.2.2.2.1
      rw [if_pos rfl] at e
      rw [e]
      exact mGo_ret ok rfl trivial (⟨by rw [if_pos h], rfl, hσ1.1, by rw [if_pos h]; exact hσ1.2⟩)
  · refine mGo_callP ok rfl (by omega) (c_stepBack0 (d := d) hD hk h) ?_
    refine mGo_if ok rfl (fun h1 => ?_) (fun h1 => ?_)
    · refine mGo_run (n := 400) ok rfl ?_
      exact mGo_ret ok rfl trivial (⟨by rw [if_neg h], rfl, fr.refl, by rw [if_neg h]; exact hD⟩)
    · exact absurd rfl h1
end T
