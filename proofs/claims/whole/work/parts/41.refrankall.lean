/-! the reference: the rounds of ranks -/
theorem sM_congr {σ : mHp} {P : List aP} {R R1 : Nat → Nat} (h : ∀ i, i < P.length → R1 i = R i) (hs : sM σ P R) : sM σ P R1 := ⟨hs.1, fun i p hp => by
  obtain ⟨a, b, c⟩ := hs.2 i p hp
  exact ⟨a, b, by rw [h i (List.getElem?_eq_some_iff.mp hp).1]; exact c⟩⟩
theorem frS_L {σ σ1 : mHp} (h : frL σ σ1) : frS σ σ1 := frS_48 h.1 h.2 (by decide)
section T
variable {g : mG} {l : Launch} {d : Nat} {lk : Nat} {ex : mSh} {σ : mHp} {F : aF} {man : Nat} {P : List aP}
theorem mid_s {L i j : Nat} (hj : j ≠ i) : mid F man P L (i + 1) j = mid F man P L i j := by
  unfold mid
  by_cases z : j < i
  · rw [if_pos z, if_pos (by omega)]
  · rw [if_neg z, if_neg (by omega)]
theorem mid_i {L i : Nat} : mid F man P L i i = rk F man P L i := by unfold mid; rw [if_neg (by omega)]
theorem mid_i1 {L i : Nat} : mid F man P L (i + 1) i = rk F man P (L + 1) i := by unfold mid; rw [if_pos (by omega)]
set_option maxHeartbeats 1000000 in
theorem m_rankAll (hf : fOk F) (hm : mF σ F) (hman : σ.1 48 17 = nI man) (hm1 : man ≤ 1) (hs : sM σ P (fun _ => 0)) (hn : nd P) (hl : P.length ≤ 300) (hc : ∀ i, i < P.length → clo F man P (at0 P i)) : mNV g l (d + 3) 163 [.ref 48] lk ex σ (fun σ1 => frS σ σ1 ∧ sM σ1 P (rk F man P P.length)) := by
  have ok : mOkP md_X9_rankAll := ok_at 163 (by decide) rfl
  refine mC_of (md := md_X9_rankAll) rfl (lt_at (by decide)) rfl ?_
  refine mGo_runS 4 (n := 400) ok rfl ?_
  have rounds : ∀ m L, L + m = P.length + 1 → L ≤ cnt (rk F man P L) P.length → ∀ (τ : mHp) (L3 L4 L5 L6 : Option Value), frS σ τ → sM τ P (rk F man P L) → mGo g l (d + 3) md_X9_rankAll (SH lk ex).length (mTot (SH lk ex)) (4, [some (.ref 48), some (.int 1), some (.int (nI (L + 1))), L3, L4, L5, L6], [], SH lk ex, τ) (fun r sp σ1 => r = none ∧ sp = SH lk ex ∧ (frS σ σ1 ∧ sM σ1 P (rk F man P P.length))) := by
    intro m
    induction m with
    | zero =>
      intro L hL hcn
      have := cnt_le (rk F man P L) P.length
      omega
    | succ m ih =>
      intro L hL hcn τ L3 L4 L5 L6 ht hst
      refine mGo_run (n := 400) ok rfl ?_
      refine mGo_if ok rfl (fun h => ?_) (fun h => ?_)
      · exact absurd h (by decide)
      refine mGo_runS 12 (n := 400) ok rfl ?_
      have fin : ∀ (τ : mHp) (fl : Bool) (L4 L5 L6 : Option Value), frS σ τ → sM τ P (rk F man P (L + 1)) → (fl = true → ∃ j, j < P.length ∧ rk F man P (L + 1) j ≠ rk F man P L j) → (fl = false → ∀ j, j < P.length → rk F man P (L + 1) j = rk F man P L j) → mGo g l (d + 3) md_X9_rankAll (SH lk ex).length (mTot (SH lk ex)) (99, [some (.ref 48), some (.int (bI fl)), some (.int (nI (L + 1))), some (.int (nI P.length)), L4, L5, L6], [], SH lk ex, τ) (fun r sp σ1 => r = none ∧ sp = SH lk ex ∧ (frS σ σ1 ∧ sM σ1 P (rk F man P P.length))) := by
        intro τ fl L4 L5 L6 t s h1 h2
        cases fl with
        | true =>
          obtain ⟨j, hj, hne⟩ := h1 rfl
          have h0 : rk F man P L j = 0 := Classical.byContradiction (fun y => hne (rk_keep y))
          have hmore := cnt_more (f := rk F man P L) (f1 := rk F man P (L + 1)) (n := P.length) (fun i _ hi => by rw [rk_keep hi]; exact hi) j hj h0 (by rw [h0] at hne; exact hne)
          refine mGo_runS 4 (n := 400) ok rfl ?_
          rw [nI_1]
          exact ih (L + 1) (by omega) (by omega) τ _ _ _ _ t s
        | false =>
          have e := rk_last hc (h2 rfl)
          refine mGo_run (n := 400) ok rfl ?_
          refine mGo_if ok rfl (fun h => ?_) (fun h => ?_)
          · refine mGo_run (n := 400) ok rfl ?_
            exact mGo_ret ok rfl trivial (⟨rfl, rfl, t, sM_congr (fun i hi => by rw [← e i hi, h2 rfl i hi]) s⟩)
          · exact absurd rfl h
      have poss : ∀ m i, i + m = P.length → ∀ (τ : mHp) (fl : Bool) (L4 L5 L6 : Option Value), frS σ τ → sM τ P (mid F man P L i) → (fl = true → ∃ j, j < P.length ∧ rk F man P (L + 1) j ≠ rk F man P L j) → (fl = false → ∀ j, j < i → rk F man P (L + 1) j = rk F man P L j) → mGo g l (d + 3) md_X9_rankAll (SH lk ex).length (mTot (SH lk ex)) (12, [some (.ref 48), some (.int (bI fl)), some (.int (nI (L + 1))), some (.int (nI i)), L4, L5, L6], [], SH lk ex, τ) (fun r sp σ1 => r = none ∧ sp = SH lk ex ∧ (frS σ σ1 ∧ sM σ1 P (rk F man P P.length))) := by
        intro m
        induction m with
        | zero =>
          intro i hi τ fl L4 L5 L6 t s h1 h2
          have e : i = P.length := by omega
          subst e
          refine mGo_run (n := 400) ok rfl ?_
          rw [s.1]
          refine mGo_ifI ok rfl (nI_leI (a := P.length) (b := P.length) (by omega) (by omega)) (fun h3 => ?_) (fun h3 => ?_)
          · exact fin τ fl _ _ _ t (sM_congr (fun j hj => by unfold mid; rw [if_pos hj]) s) h1 h2
          · omega
        | succ m ihp =>
          intro i hi τ fl L4 L5 L6 t s h1 h2
          have hil : i < P.length := by omega
          have hml := mvs_len hf (at0 P i).1 (at0 P i).2
          have ri := (s.2 i _ (at0_at hil)).2.2
          rw [mid_i] at ri
          have rle := rk_le (F := F) (man := man) (P := P) L i
          refine mGo_run (n := 400) ok rfl ?_
          rw [s.1]
          refine mGo_ifI ok rfl (nI_leI (a := P.length) (b := i) (by omega) (by omega)) (fun h3 => ?_) (fun h3 => ?_)
          · omega
          · refine mGo_run (n := 400) ok rfl ?_
            refine mGo_callV ok rfl (by omega) (m_stand (d := d) s (by omega) hil) (fun τ1 hτ1 => ?_)
            have t1 : frS σ τ1 := by rw [hτ1]; exact t.trans (frS_now _ _)
            have s1 : sM τ1 P (mid F man P L i) := by rw [hτ1]; exact sM_now _ _ s
            have q1 : mQ τ1 (at0 P i).1 (at0 P i).2 := by rw [hτ1]; exact ⟨by simp [WL_at], by simp [WL_at]⟩
            have r1 : τ1.1 59 i = nI (rk F man P L i) := by rw [hτ1]; exact ri
            clear hτ1
            refine mGo_run (n := 400) ok rfl ?_
            refine mGo_side ok rfl (nI_in (by omega) (by omega)) ?_
            rw [nI_clamp (n := i) (by omega), r1]
            have done : ∀ (τ : mHp) (fl : Bool) (L4 L5 L6 : Option Value), frS σ τ → sM τ P (mid F man P L (i + 1)) → (fl = true → ∃ j, j < P.length ∧ rk F man P (L + 1) j ≠ rk F man P L j) → (fl = false → ∀ j, j < i + 1 → rk F man P (L + 1) j = rk F man P L j) → mGo g l (d + 3) md_X9_rankAll (SH lk ex).length (mTot (SH lk ex)) (93, [some (.ref 48), some (.int (bI fl)), some (.int (nI (L + 1))), some (.int (nI i)), L4, L5, L6], [], SH lk ex, τ) (fun r sp σ1 => r = none ∧ sp = SH lk ex ∧ (frS σ σ1 ∧ sM σ1 P (rk F man P P.length))) := by
              intro τ fl L4 L5 L6 t s h1 h2
              refine mGo_runS 12 (n := 400) ok rfl ?_
              rw [nI_1]
              exact ihp (i + 1) (by omega) τ fl _ _ _ t s h1 h2
            have same : rk F man P (L + 1) i = rk F man P L i → ∀ (τ : mHp), sM τ P (mid F man P L i) → sM τ P (mid F man P L (i + 1)) := by
              intro e τ s
              refine sM_congr (fun j hj => ?_) s
              by_cases z : j = i
              · subst z; rw [mid_i1, mid_i, e]
              · exact mid_s z
            have same2 : rk F man P (L + 1) i = rk F man P L i → (fl = false → ∀ j, j < i + 1 → rk F man P (L + 1) j = rk F man P L j) := by
              intro e z j hj
              rcases Nat.lt_or_ge j i with y | y
              · exact h2 z j y
              · have : j = i := by omega
                subst this; exact e
            refine mGo_ifI ok rfl (nI_eq (a := rk F man P L i) (b := 0) (by omega) (by omega)) (fun h4 => ?_) (fun h4 => ?_)
            · refine mGo_run (n := 400) ok rfl ?_
              refine mGo_callP ok rfl (by omega) (m_countMoves (d := d) hf (t1.mF hm) q1) ?_
              refine mGo_runS 47 (n := 400) ok rfl ?_
              have moves : ∀ (rest pre : List (Nat × Nat)), mvs F (at0 P i).1 (at0 P i).2 = pre ++ rest → (∀ q ∈ pre, ¬ (rps F man (at0 P i) q).all (fun x => decide (1 ≤ rk F man P L (ix P x) ∧ rk F man P L (ix P x) < L + 1)) = true) → ∀ (τ : mHp) (L6 : Option Value), frS σ τ → sM τ P (mid F man P L i) → mGo g l (d + 3) md_X9_rankAll (SH lk ex).length (mTot (SH lk ex)) (47, [some (.ref 48), some (.int (bI fl)), some (.int (nI (L + 1))), some (.int (nI i)), some (.int (nI (mvs F (at0 P i).1 (at0 P i).2).length)), some (.int (nI pre.length)), L6], [], SH lk ex, τ) (fun r sp σ1 => r = none ∧ sp = SH lk ex ∧ (frS σ σ1 ∧ sM σ1 P (rk F man P P.length))) := by
                intro rest
                induction rest with
                | nil =>
                  intro pre hp hno τ L6 t s
                  rw [List.append_nil] at hp
                  have hpl : pre.length ≤ 112 := by rw [← hp]; exact hml
                  have hw : ¬ winB F man P (rk F man P L) (L + 1) i = true := by
                    intro z
                    unfold winB at z
                    obtain ⟨q, hq, hx⟩ := List.any_eq_true.mp z
                    exact hno q (by rw [← hp]; exact hq) hx
                  have e : rk F man P (L + 1) i = rk F man P L i := by
                    simp only [rk]
                    rw [if_neg (fun z => hw z.2)]
                  refine mGo_run (n := 400) ok rfl ?_
                  refine mGo_ifI ok rfl (nI_leI (a := (mvs F (at0 P i).1 (at0 P i).2).length) (b := pre.length) (by omega) (by omega)) (fun h5 => ?_) (fun h5 => ?_)
                  · exact done τ fl _ _ _ t (same e τ s) h1 (same2 e)
                  · rw [hp] at h5; omega
                | cons q rest ihm =>
                  intro pre hp hno τ L6 t s
                  have hpl : pre.length < (mvs F (at0 P i).1 (at0 P i).2).length := by rw [hp]; simp
                  have hat : (mvs F (at0 P i).1 (at0 P i).2)[pre.length]? = some q := by rw [hp]; simp
                  have rt := (s.2 i _ (at0_at hil)).2.2
                  rw [mid_i, h4] at rt
                  refine mGo_run (n := 400) ok rfl ?_
                  refine mGo_ifI ok rfl (nI_leI (a := (mvs F (at0 P i).1 (at0 P i).2).length) (b := pre.length) (by omega) (by omega)) (fun h5 => ?_) (fun h5 => ?_)
                  · omega
                  · refine mGo_run (n := 400) ok rfl ?_
                    refine mGo_side ok rfl (nI_in (by omega) (by omega)) ?_
                    rw [nI_clamp (n := i) (by omega), rt]
                    refine mGo_if ok rfl (fun h6 => ?_) (fun h6 => ?_)
                    · refine mGo_run (n := 400) ok rfl ?_
                      refine mGo_callR ok rfl (by omega) (m_rankBy (d := d) hf (t.mF hm) (by rw [(t.2 17 (by decide)).1]; exact hman) hm1 s hn (by omega) (fun j _ => by have := mid_le (F := F) (man := man) (P := P) (L := L) (i := i) (j := j); have := cnt_le (rk F man P L) P.length; omega) hil (hc i hil) hat) (fun τ2 hτ2 => ?_)
                      have t2 := t.trans (frS_L hτ2)
                      have s2 := sM_L hτ2.1 hτ2.2 s
                      have hrl := rbA_le ((rps F man (at0 P i) q).map (fun x => mid F man P L i (ix P x))) 0 (L + 1) (by omega) (fun y hy => by
                        obtain ⟨x, hx, rfl⟩ := List.mem_map.mp hy
                        exact mid_le)
                      have hc2 := cnt_le (rk F man P L) P.length
                      have key := rb_win (F := F) (man := man) (P := P) h4 rfl (List.mem_of_getElem? hat)
                      refine mGo_run (n := 400) ok rfl ?_
                      refine mGo_ifI ok rfl (nI_eq (a := rbA 0 ((rps F man (at0 P i) q).map (fun x => mid F man P L i (ix P x)))) (b := L + 1) (by omega) (by omega)) (fun h7 => ?_) (fun h7 => ?_)
                      · have hw : winB F man P (rk F man P L) (L + 1) i = true := List.any_eq_true.mpr ⟨q, List.mem_of_getElem? hat, key.mp h7⟩
                        have e : rk F man P (L + 1) i = L + 1 := by
                          simp only [rk]
                          rw [if_pos ⟨h4, hw⟩]
                        refine mGo_run (n := 400) ok rfl ?_
                        refine mGo_side ok rfl (nI_in (by omega) (by omega)) ?_
                        rw [nI_clamp (by omega)]
                        refine mGo_runS 47 (n := 400) ok rfl ?_
                        have t3 : frS σ (mWI τ2 59 i (nI (L + 1))) := ⟨t2.1.WI (by decide), t2.2.WI (fun z => absurd z (by decide))⟩
                        have s3 : sM (mWI τ2 59 i (nI (L + 1))) P (mid F man P L (i + 1)) := by
                          refine ⟨by rw [WI_at, if_neg (by omega)]; exact s2.1, fun j p hp => ?_⟩
                          obtain ⟨a1, a2, a3⟩ := s2.2 j p hp
                          refine ⟨a1, a2, ?_⟩
                          by_cases z : j = i
                          · subst z; rw [WI_at, if_pos ⟨rfl, rfl⟩, mid_i1, e]
                          · rw [WI_at, if_neg (fun y => z y.2), mid_s z]; exact a3
                        have hd := done (mWI τ2 59 i (nI (L + 1))) true (some (.int (nI (mvs F (at0 P i).1 (at0 P i).2).length))) (some (.int (nI pre.length + 1))) (some (.int (nI (rbA 0 ((rps F man (at0 P i) q).map (fun x => mid F man P L i (ix P x))))))) t3 s3 (fun _ => ⟨i, hil, by rw [e, h4]; omega⟩) (fun z => Bool.noConfusion z)
                        refine mGo_run (n := 400) ok rfl ?_
                        refine mGo_if ok rfl (fun h8 => ?_) (fun h8 => ?_)
                        · exact hd
                        · refine mGo_run (n := 400) ok rfl ?_
                          refine mGo_side ok rfl (nI_in (by omega) (by omega)) ?_
                          rw [nI_clamp (by omega), show (mWI τ2 59 i (nI (L + 1))).1 59 i = nI (L + 1) by rw [WI_at, if_pos ⟨rfl, rfl⟩]]
                          refine mGo_ifI ok rfl (nI_eq (a := L + 1) (b := 0) (by omega) (by omega)) (fun h9 => ?_) (fun h9 => ?_)
                          · omega
                          · exact hd
                      · refine mGo_runS 47 (n := 400) ok rfl ?_
                        rw [nI_1, show pre.length + 1 = (pre ++ [q]).length by simp]
                        exact ihm (pre ++ [q]) (by rw [hp]; simp) (fun q1 hq1 => by
                          rcases List.mem_append.mp hq1 with z | z
                          · exact hno q1 z
                          · have : q1 = q := by simpa using z
                            subst this
                            exact fun y => h7 (key.mpr y)) τ2 _ t2 s2
                    · exact absurd rfl h6
              exact moves _ [] rfl (fun q hq => by simp at hq) τ1 _ t1 s1
            · have e : rk F man P (L + 1) i = rk F man P L i := rk_keep h4
              refine mGo_run (n := 400) ok rfl ?_
              refine mGo_if ok rfl (fun h5 => ?_) (fun h5 => ?_)
              · exact done τ1 fl _ _ _ t1 (same e τ1 s1) h1 (same2 e)
              · exact absurd (Int32.le_refl _) h5
      exact poss P.length 0 (by omega) τ false _ _ _ ht (sM_congr (fun j hj => by unfold mid; rw [if_neg (by omega)]) hst) (fun z => Bool.noConfusion z) (fun _ j hj => by omega)
  exact rounds (P.length + 1) 0 (by omega) (Nat.zero_le _) σ _ _ _ _ frS.refl hs
end T
