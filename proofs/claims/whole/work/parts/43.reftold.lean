/-! the reference: rank, positionCount, manners -/
theorem bI_b (b : Bool) : bI b = 0 ∨ bI b = 1 := by cases b; exact Or.inl rfl; exact Or.inr rfl
theorem rbA_0 : ∀ (t : List Nat) (a : Nat), rbA a t = 0 ↔ 0 ∈ t := by
  intro t
  induction t with
  | nil => intro a; simp [rbA]
  | cons x t ih =>
    intro a
    simp only [rbA]
    by_cases h : x = 0
    · rw [if_pos h]; simp [h]
    · rw [if_neg h, ih]
      constructor
      · intro z; exact List.mem_cons_of_mem _ z
      · intro z
        rcases List.mem_cons.mp z with y | y
        · exact absurd y.symm h
        · exact y
theorem nI_b {n : Nat} (h : n < 2 ^ 31) : nI n ≠ -5 := fun z => absurd (show nI n < 0 by rw [z]; decide) (nI_pos h)
section T
variable {g : mG} {l : Launch} {d : Nat} {lk : Nat} {ex : mSh} {σ : mHp} {F : aF} {P : List aP}
set_option maxHeartbeats 1000000 in
theorem m_rankOf (hf : fOk F) (hm : mF σ F) {f mn : Nat} (hfn : f < aN F) (hm1 : mn ≤ 1) : mNR g l (d + 5) 165 [.ref 48, .int (nI f), .int (nI mn)] lk ex σ (.int (qRk F mn f)) (frS σ) := by
  have hn := hf.2.1
  have ha := atk_le (aK F f)
  have hsl := stp_len F mn f
  have ok : mOkP md_X9_rankOf := ok_at 165 (by decide) rfl
  refine mC_of (md := md_X9_rankOf) rfl (lt_at (by decide)) rfl ?_
  refine mGo_run (n := 400) ok rfl ?_
  have m0 : mF (mWI σ 48 17 (nI mn)) F := ⟨by rw [WI_at, if_neg (by omega)]; exact hm.1, fun j hj => hm.2 j hj⟩
  have p0 : (mWI σ 48 17 (nI mn)).1 48 17 = nI mn := by rw [WI_at, if_pos ⟨rfl, rfl⟩]
  refine mGo_callR ok rfl (by omega) (m_meetAfter (d := d) hf m0 p0 hm1 hfn) (fun τ1 hτ1 => ?_)
  have fin : ∀ (τ : mHp) (x : Int32) (L5 L6 : Option Value), x = qRk F mn f → frS (mWI σ 48 17 (nI mn)) τ → mGo g l (d + 5) md_X9_rankOf (SH lk ex).length (mTot (SH lk ex)) (123, [some (.ref 48), some (.int (nI f)), some (.int (nI mn)), some (.int (σ.1 48 17)), some (.int x), L5, L6], [], SH lk ex, τ) (fun r1 sp σ1 => r1 = some (.int (qRk F mn f)) ∧ sp = SH lk ex ∧ frS σ σ1) := by
    intro τ x L5 L6 hx ht
    refine mGo_run (n := 400) ok rfl ?_
    exact mGo_ret ok rfl trivial (⟨by rw [hx], rfl, frS_man ht⟩)
  refine mGo_ifI ok rfl (bI_0) (fun h => ?_) (fun h => ?_)
  · have h1 : ¬ (gS F mn f).length ≤ 300 := of_decide_eq_false h
    exact fin τ1 (-6) _ _ (by unfold qRk; rw [if_pos (by omega)]) hτ1.1
  · have h1 : (gS F mn f).length ≤ 300 := by simpa using h
    have hcl := gB_clo (F := F) (man := mn) (P := meets [] (stp F mn f)) (by have := meets_nil_len hsl; omega) h1
    have hnd : nd (gS F mn f) := gB_nd (meets_nd _ nd_nil)
    have eq : qRk F mn f = hst ((stp F mn f).map (fun x => gR F mn (gS F mn f) (ix (gS F mn f) x))) := by unfold qRk; rw [if_neg (by omega)]
    refine mGo_run (n := 400) ok rfl ?_
    refine mGo_callV ok rfl (by omega) (m_rankAll (d := d) hf (hτ1.1.mF m0) (hτ1.1.mn p0) hm1 hτ1.2 hnd h1 hcl) (fun τ2 hτ2 => ?_)
    have t2 := hτ1.1.trans hτ2.1
    have s2 := hτ2.2
    refine mGo_run (n := 400) ok rfl ?_
    refine mGo_callP ok rfl (by omega) (m_attacksOn (d := d) hf (t2.mF m0) hfn) ?_
    refine mGo_ifI ok rfl (nI_eq (a := atk (aK F f)) (b := 0) (by omega) (by omega)) (fun h2 => ?_) (fun h2 => ?_)
    · refine mGo_run (n := 400) ok rfl ?_
      refine mGo_callP ok rfl (by omega) (m_attacksOn (d := d) hf (t2.mF m0) hfn) ?_
      refine mGo_ifI ok rfl (nI_leI (a := atk (aK F f)) (b := 0) (by omega) (by omega)) (fun h3 => ?_) (fun h3 => ?_)
      · exact fin τ2 (-5) _ _ (by rw [eq]; unfold hst; rw [if_pos (by unfold stp; rw [h2]; rfl)]) t2
      · omega
    · have k0 : aK F f ≠ 0 := fun z => by rw [z] at h2; simp [atk] at h2
      have loop : ∀ m r, r + m = atk (aK F f) → ∀ (τ : mHp) (a : Nat) (L6 : Option Value), a ≤ 300 → frS (mWI σ 48 17 (nI mn)) τ → sM τ (gS F mn f) (gR F mn (gS F mn f)) → (if rbA a (((List.range' r m).map (fun r => atP2 F mn 0 0 f r)).map (fun x => gR F mn (gS F mn f) (ix (gS F mn f) x))) = 0 then -5 else nI (rbA a (((List.range' r m).map (fun r => atP2 F mn 0 0 f r)).map (fun x => gR F mn (gS F mn f) (ix (gS F mn f) x))) - 1)) = qRk F mn f → mGo g l (d + 5) md_X9_rankOf (SH lk ex).length (mTot (SH lk ex)) (45, [some (.ref 48), some (.int (nI f)), some (.int (nI mn)), some (.int (σ.1 48 17)), some (.int (nI a)), some (.int (nI r)), L6], [], SH lk ex, τ) (fun r1 sp σ1 => r1 = some (.int (qRk F mn f)) ∧ sp = SH lk ex ∧ frS σ σ1) := by
        intro m
        induction m with
        | zero =>
          intro r hr τ a L6 hal t s he
          refine mGo_run (n := 400) ok rfl ?_
          refine mGo_callP ok rfl (by omega) (m_attacksOn (d := d) hf (t.mF m0) hfn) ?_
          refine mGo_ifI ok rfl (nI_leI (a := atk (aK F f)) (b := r) (by omega) (by omega)) (fun h3 => ?_) (fun h3 => ?_)
          · exact fin τ (nI a) _ _ (by rw [← he]; simp [rbA]) t
          · omega
        | succ m ih =>
          intro r hr τ a L6 hal t s he
          have hx : atP2 F mn 0 0 f r ∈ gS F mn f := gS_mem h1 (List.mem_map.mpr ⟨r, List.mem_range.mpr (by omega), rfl⟩)
          have hxl := ix_lt hx
          have hR := rk_le (F := F) (man := mn) (P := gS F mn f) (gS F mn f).length (ix (gS F mn f) (atP2 F mn 0 0 f r))
          have hR : gR F mn (gS F mn f) (ix (gS F mn f) (atP2 F mn 0 0 f r)) ≤ 300 := by unfold gR; omega
          refine mGo_run (n := 400) ok rfl ?_
          refine mGo_callP ok rfl (by omega) (m_attacksOn (d := d) hf (t.mF m0) hfn) ?_
          refine mGo_ifI ok rfl (nI_leI (a := atk (aK F f)) (b := r) (by omega) (by omega)) (fun h3 => ?_) (fun h3 => ?_)
          · omega
          · refine mGo_run (n := 400) ok rfl ?_
            refine mGo_if ok rfl (fun h4 => ?_) (fun h4 => ?_)
            · exact absurd h4 (nI_b (by omega))
            · refine mGo_run (n := 400) ok rfl ?_
              have t0 := t.trans (frS_now (σ := τ) 0 0)
              refine mGo_callV ok rfl (by omega) (m_attack (d := d) hf (t0.mF m0) (c := 0) (o := 0) ⟨by simp [WL_at], by simp [WL_at]⟩ (t0.mn p0) hm1 hfn k0 (r := r) (by omega)) (fun τ3 hτ3 => ?_)
              have t3 := t0.trans (frS_48 hτ3.1 hτ3.2.1 (by decide))
              have s3 := sM_L hτ3.1 (hτ3.2.1.wide (by decide)) (sM_now 0 0 s)
              have r3 := (s3.2 _ _ (ix_at hx)).2.2
              refine mGo_run (n := 400) ok rfl ?_
              rw [hτ3.2.2.1, hτ3.2.2.2]
              refine mGo_callP ok rfl (by omega) (m_placeOf (d := d) s3 hnd (by omega) (atP2 F mn 0 0 f r)) ?_
              rw [if_pos hx]
              refine mGo_side ok rfl (nI_in (by omega) (by omega)) ?_
              rw [nI_clamp (n := ix (gS F mn f) (atP2 F mn 0 0 f r)) (by omega), r3]
              refine mGo_run (n := 400) ok rfl ?_
              have he : (if (if gR F mn (gS F mn f) (ix (gS F mn f) (atP2 F mn 0 0 f r)) = 0 then 0 else rbA (if a < gR F mn (gS F mn f) (ix (gS F mn f) (atP2 F mn 0 0 f r)) then gR F mn (gS F mn f) (ix (gS F mn f) (atP2 F mn 0 0 f r)) else a) (((List.range' (r + 1) m).map (fun r => atP2 F mn 0 0 f r)).map (fun x => gR F mn (gS F mn f) (ix (gS F mn f) x)))) = 0 then -5 else nI ((if gR F mn (gS F mn f) (ix (gS F mn f) (atP2 F mn 0 0 f r)) = 0 then 0 else rbA (if a < gR F mn (gS F mn f) (ix (gS F mn f) (atP2 F mn 0 0 f r)) then gR F mn (gS F mn f) (ix (gS F mn f) (atP2 F mn 0 0 f r)) else a) (((List.range' (r + 1) m).map (fun r => atP2 F mn 0 0 f r)).map (fun x => gR F mn (gS F mn f) (ix (gS F mn f) x)))) - 1)) = qRk F mn f := he
              refine mGo_ifI ok rfl (nI_eq (a := gR F mn (gS F mn f) (ix (gS F mn f) (atP2 F mn 0 0 f r))) (b := 0) (by omega) (by omega)) (fun h5 => ?_) (fun h5 => ?_)
              · rw [if_pos h5, if_pos rfl] at he
                refine mGo_run (n := 400) ok rfl ?_
                refine mGo_callP ok rfl (by omega) (m_attacksOn (d := d) hf (t3.mF m0) hfn) ?_
                refine mGo_if ok rfl (fun h6 => ?_) (fun h6 => ?_)
                · exact fin τ3 (-5) _ _ he t3
                · refine mGo_run (n := 400) ok rfl ?_
                  refine mGo_if ok rfl (fun h7 => ?_) (fun h7 => ?_)
                  · exact fin τ3 (-5) _ _ he t3
                  · exact absurd rfl h7
              · rw [if_neg h5] at he
                refine mGo_run (n := 400) ok rfl ?_
                refine mGo_callP ok rfl (by omega) (c_max (d := d) (nI a) (nI (gR F mn (gS F mn f) (ix (gS F mn f) (atP2 F mn 0 0 f r))))) ?_
                rw [nI_max (by omega) (by omega)]
                refine mGo_runS 45 (n := 400) ok rfl ?_
                rw [nI_1]
                exact ih (r + 1) (by omega) τ3 _ _ (by split <;> omega) t3 s3 he
      refine mGo_runS 45 (n := 400) ok rfl ?_
      refine loop (atk (aK F f)) 0 (by omega) τ2 0 _ (by omega) t2 s2 ?_
      have ne : (stp F mn f).map (fun x => gR F mn (gS F mn f) (ix (gS F mn f) x)) ≠ [] := by
        intro z
        have := congrArg List.length z
        simp [stp] at this
        omega
      rw [← range_r, eq]
      unfold hst
      rw [if_neg ne]
      rfl
theorem y_rank (hf : fOk F) (hm : mF σ F) (f m : Int32) : mNR g l (d + 6) 167 [.ref 48, .int f, .int m] lk ex σ (.int (qRank F f m)) (frS σ) := by
  have hn := hf.2.1
  have ok : mOkP md_X9_rank := ok_at 167 (by decide) rfl
  refine mC_of (md := md_X9_rank) rfl (lt_at (by decide)) rfl ?_
  unfold qRank
  refine mGo_run (n := 400) ok rfl ?_
  by_cases hfm : 0 ≤ f ∧ f < nI (aN F)
  · obtain ⟨j, hj, rfl⟩ := (i_in (by omega)).mp hfm
    rw [if_neg (fun z => z hfm), nI_clamp (n := j) (by omega)]
    refine mGo_callP ok rfl (by omega) (m_isFormula1 (d := d) hm.1 hf.1 hf.2.1 hj) ?_
    refine mGo_if ok rfl (fun h => ?_) (fun h => ?_)
    · exact absurd h (by decide)
    · refine mGo_run (n := 400) ok rfl ?_
      refine mGo_callP ok rfl (by omega) (m_isManner (d := d) m) ?_
      by_cases hq : qMan m
      · rw [if_pos hq, if_neg (fun z => z hq)]
        obtain ⟨mn, hmn, rfl⟩ := qMan_n hq
        rw [nI_clamp (n := mn) (by omega)]
        refine mGo_if ok rfl (fun h1 => ?_) (fun h1 => ?_)
        · exact absurd h1 (by decide)
        · refine mGo_run (n := 400) ok rfl ?_
          refine mGo_callR ok rfl (by omega) (m_rankOf (d := d) hf hm hj hmn) (fun σ1 hσ1 => ?_)
          refine mGo_run (n := 400) ok rfl ?_
          exact mGo_ret ok rfl trivial (⟨rfl, rfl, hσ1⟩)
      · rw [if_neg hq, if_pos hq]
        refine mGo_if ok rfl (fun h1 => ?_) (fun h1 => ?_)
        · refine mGo_run (n := 400) ok rfl ?_
          exact mGo_ret ok rfl trivial (⟨rfl, rfl, frS.refl⟩)
        · exact absurd rfl h1
  · rw [if_pos hfm]
    refine mGo_callP ok rfl (by omega) (m_isFormula0 (d := d) hm.1 hf.1 hf.2.1 (fun z => hfm ((i_in (by omega)).mpr z))) ?_
    refine mGo_if ok rfl (fun h => ?_) (fun h => ?_)
    · refine mGo_run (n := 400) ok rfl ?_
      exact mGo_ret ok rfl trivial (⟨rfl, rfl, frS.refl⟩)
    · exact absurd rfl h
theorem y_positionCount (hf : fOk F) (hm : mF σ F) (f m : Int32) : mNR g l (d + 6) 168 [.ref 48, .int f, .int m] lk ex σ (.int (qCnt F f m)) (frS σ) := by
  have hn := hf.2.1
  have ok : mOkP md_X9_positionCount := ok_at 168 (by decide) rfl
  refine mC_of (md := md_X9_positionCount) rfl (lt_at (by decide)) rfl ?_
  unfold qCnt
  refine mGo_run (n := 400) ok rfl ?_
  by_cases hfm : 0 ≤ f ∧ f < nI (aN F)
  · obtain ⟨j, hj, rfl⟩ := (i_in (by omega)).mp hfm
    rw [if_neg (fun z => z hfm), nI_clamp (n := j) (by omega)]
    refine mGo_callP ok rfl (by omega) (m_isFormula1 (d := d) hm.1 hf.1 hf.2.1 hj) ?_
    refine mGo_if ok rfl (fun h => ?_) (fun h => ?_)
    · exact absurd h (by decide)
    · refine mGo_run (n := 400) ok rfl ?_
      refine mGo_callP ok rfl (by omega) (m_isManner (d := d) m) ?_
      by_cases hq : qMan m
      · rw [if_pos hq, if_neg (fun z => z hq)]
        obtain ⟨mn, hmn, rfl⟩ := qMan_n hq
        rw [nI_clamp (n := mn) (by omega)]
        refine mGo_if ok rfl (fun h1 => ?_) (fun h1 => ?_)
        · exact absurd h1 (by decide)
        · refine mGo_run (n := 400) ok rfl ?_
          have m0 : mF (mWI σ 48 17 (nI mn)) F := ⟨by rw [WI_at, if_neg (by omega)]; exact hm.1, fun j hj => hm.2 j hj⟩
          have p0 : (mWI σ 48 17 (nI mn)).1 48 17 = nI mn := by rw [WI_at, if_pos ⟨rfl, rfl⟩]
          refine mGo_callR ok rfl (by omega) (m_meetAfter (d := d) hf m0 p0 hmn hj) (fun τ1 hτ1 => ?_)
          refine mGo_run (n := 400) ok rfl ?_
          refine mGo_ifI ok rfl (bI_0) (fun h2 => ?_) (fun h2 => ?_)
          · have h3 : ¬ (gS F mn j).length ≤ 300 := of_decide_eq_false h2
            refine mGo_run (n := 400) ok rfl ?_
            exact mGo_ret ok rfl trivial (⟨by rw [if_pos (by omega)], rfl, frS_man hτ1.1⟩)
          · have h3 : (gS F mn j).length ≤ 300 := by simpa using h2
            refine mGo_run (n := 400) ok rfl ?_
            rw [show (mWI τ1 48 17 (σ.1 48 17)).1 48 23 = nI (gS F mn j).length by rw [WI_at, if_neg (by omega)]; exact hτ1.2.1]
            exact mGo_ret ok rfl trivial (⟨by rw [if_neg (by omega)], rfl, frS_man hτ1.1⟩)
      · rw [if_neg hq, if_pos hq]
        refine mGo_if ok rfl (fun h1 => ?_) (fun h1 => ?_)
        · refine mGo_run (n := 400) ok rfl ?_
          exact mGo_ret ok rfl trivial (⟨rfl, rfl, frS.refl⟩)
        · exact absurd rfl h1
  · rw [if_pos hfm]
    refine mGo_callP ok rfl (by omega) (m_isFormula0 (d := d) hm.1 hf.1 hf.2.1 (fun z => hfm ((i_in (by omega)).mpr z))) ?_
    refine mGo_if ok rfl (fun h => ?_) (fun h => ?_)
    · refine mGo_run (n := 400) ok rfl ?_
      exact mGo_ret ok rfl trivial (⟨rfl, rfl, frS.refl⟩)
    · exact absurd rfl h
theorem y_manners (hf : fOk F) (hm : mF σ F) (f : Int32) : mNR g l (d + 6) 169 [.ref 48, .int f] lk ex σ (.int (qMns F f)) (frS σ) := by
  have hn := hf.2.1
  have ok : mOkP md_X9_manners := ok_at 169 (by decide) rfl
  refine mC_of (md := md_X9_manners) rfl (lt_at (by decide)) rfl ?_
  unfold qMns
  refine mGo_run (n := 400) ok rfl ?_
  by_cases hfm : 0 ≤ f ∧ f < nI (aN F)
  · obtain ⟨j, hj, rfl⟩ := (i_in (by omega)).mp hfm
    rw [if_neg (fun z => z hfm), nI_clamp (n := j) (by omega)]
    refine mGo_callP ok rfl (by omega) (m_isFormula1 (d := d) hm.1 hf.1 hf.2.1 hj) ?_
    refine mGo_if ok rfl (fun h => ?_) (fun h => ?_)
    · exact absurd h (by decide)
    · refine mGo_run (n := 400) ok rfl ?_
      refine mGo_callR ok rfl (by omega) (m_rankOf (d := d) (mn := 1) hf hm hj (by omega)) (fun σ1 hσ1 => ?_)
      refine mGo_run (n := 400) ok rfl ?_
      refine mGo_callR ok rfl (by omega) (m_rankOf (d := d) (mn := 0) hf (hσ1.mF hm) hj (by omega)) (fun σ2 hσ2 => ?_)
      have t2 := hσ1.trans hσ2
      have bad : (qRk F 1 j = -6 ∨ qRk F 0 j = -6) → mGo g l (d + 6) md_X9_manners (SH lk ex).length (mTot (SH lk ex)) (37, [some (.ref 48), some (.int (nI j)), some (.int (qRk F 1 j)), some (.int (qRk F 0 j))], [], SH lk ex, σ2) (fun r1 sp σ1 => r1 = some (.int (if qRk F 1 j = -6 ∨ qRk F 0 j = -6 then -6 else (if 0 < qRk F 1 j then 1 else 0) + (if 0 < qRk F 0 j then 2 else 0))) ∧ sp = SH lk ex ∧ frS σ σ1) := by
        intro z
        rw [if_pos z]
        refine mGo_run (n := 400) ok rfl ?_
        exact mGo_ret ok rfl trivial (⟨rfl, rfl, t2⟩)
      refine mGo_run (n := 400) ok rfl ?_
      refine mGo_if ok rfl (fun h1 => ?_) (fun h1 => ?_)
      · exact bad (Or.inl h1)
      · refine mGo_run (n := 400) ok rfl ?_
        refine mGo_if ok rfl (fun h2 => ?_) (fun h2 => ?_)
        · exact bad (Or.inr h2)
        · rw [if_neg (by rintro (z | z); exact h1 z; exact h2 z)]
          have last : ∀ a : Int32, mGo g l (d + 6) md_X9_manners (SH lk ex).length (mTot (SH lk ex)) (49, [some (.ref 48), some (.int (nI j)), some (.int (qRk F 1 j)), some (.int (qRk F 0 j))], [.int a], SH lk ex, σ2) (fun r1 sp σ1 => r1 = some (.int (a + (if 0 < qRk F 0 j then 2 else 0))) ∧ sp = SH lk ex ∧ frS σ σ1) := by
            intro a
            refine mGo_run (n := 400) ok rfl ?_
            refine mGo_if ok rfl (fun h3 => ?_) (fun h3 => ?_)
            · refine mGo_run (n := 400) ok rfl ?_
              exact mGo_ret ok rfl trivial (⟨by rw [if_neg (Int32.not_lt.mpr h3)], rfl, t2⟩)
            · refine mGo_run (n := 400) ok rfl ?_
              exact mGo_ret ok rfl trivial (⟨by rw [if_pos (Int32.not_le.mp h3)], rfl, t2⟩)
          refine mGo_run (n := 400) ok rfl ?_
          refine mGo_if ok rfl (fun h3 => ?_) (fun h3 => ?_)
          · refine mGo_runS 49 (n := 400) ok rfl ?_
            rw [if_neg (Int32.not_lt.mpr h3)]
            exact last 0
          · refine mGo_runS 49 (n := 400) ok rfl ?_
            rw [if_pos (Int32.not_le.mp h3)]
            exact last 1
  · rw [if_pos hfm]
    refine mGo_callP ok rfl (by omega) (m_isFormula0 (d := d) hm.1 hf.1 hf.2.1 (fun z => hfm ((i_in (by omega)).mpr z))) ?_
    refine mGo_if ok rfl (fun h => ?_) (fun h => ?_)
    · refine mGo_run (n := 400) ok rfl ?_
      exact mGo_ret ok rfl trivial (⟨rfl, rfl, frS.refl⟩)
    · exact absurd rfl h
end T
