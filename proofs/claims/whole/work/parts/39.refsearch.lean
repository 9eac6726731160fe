/-! the reference: the search -/
theorem range_r (n : Nat) : List.range n = List.range' 0 n := List.range_eq_range'
theorem at0_at {P : List aP} {i : Nat} (hi : i < P.length) : P[i]? = some (at0 P i) := by unfold at0; rw [List.getElem?_eq_getElem hi]; rfl
theorem at0_pfx {P Q : List aP} (h : pfx P Q) {i : Nat} (hi : i < P.length) : at0 Q i = at0 P i := by
  have h1 := h.at (at0_at hi)
  unfold at0 at h1 ⊢
  rw [h1]; rfl
theorem frS_now {σ : mHp} (a b : Int64) : frS σ (mWL (mWL σ 48 15 a) 48 16 b) := frS_48 (frL_now a b).1 (frL_now a b).2 (by decide)
theorem sM_now {σ : mHp} {P : List aP} {R : Nat → Nat} (a b : Int64) (hs : sM σ P R) : sM (mWL (mWL σ 48 15 a) 48 16 b) P R := sM_L (frL_now a b).1 (frL_now a b).2 hs
section T
variable {g : mG} {l : Launch} {d : Nat} {lk : Nat} {ex : mSh} {σ : mHp} {F : aF} {man : Nat} {P : List aP} {R : Nat → Nat}
set_option maxHeartbeats 1000000 in
theorem m_meetAll (hf : fOk F) (hm : mF σ F) (hman : σ.1 48 17 = nI man) (hm1 : man ≤ 1) (hs : sM σ P (fun _ => 0)) (hn : nd P) (hl : P.length ≤ 301) : mNR g l (d + 3) 161 [.ref 48] lk ex σ (.int (bI (decide ((bfs F man 302 0 P).length ≤ 300)))) (fun σ1 => frS σ σ1 ∧ sM σ1 (bfs F man 302 0 P) (fun _ => 0)) := by
  have ok : mOkP md_X9_meetAll := ok_at 161 (by decide) rfl
  refine mC_of (md := md_X9_meetAll) rfl (lt_at (by decide)) rfl ?_
  refine mGo_runS 2 (n := 400) ok rfl ?_
  have outer : ∀ n i, i + n = 302 → ∀ (τ : mHp) (Q : List aP) (L2 L3 L4 L5 : Option Value), frS σ τ → sM τ Q (fun _ => 0) → nd Q → Q.length ≤ 301 → mGo g l (d + 3) md_X9_meetAll (SH lk ex).length (mTot (SH lk ex)) (2, [some (.ref 48), some (.int (nI i)), L2, L3, L4, L5], [], SH lk ex, τ) (fun r sp σ1 => r = some (.int (bI (decide ((bfs F man n i Q).length ≤ 300)))) ∧ sp = SH lk ex ∧ (frS σ σ1 ∧ sM σ1 (bfs F man n i Q) (fun _ => 0))) := by
    intro n
    induction n with
    | zero =>
      intro i hi τ Q L2 L3 L4 L5 ht hsq hnq hlq
      refine mGo_run (n := 400) ok rfl ?_
      rw [hsq.1]
      refine mGo_ifI ok rfl (nI_leI (a := Q.length) (b := i) (by omega) (by omega)) (fun h => ?_) (fun h => ?_)
      · refine mGo_run (n := 400) ok rfl ?_
        rw [hsq.1]
        refine mGo_ifI ok rfl (nI_ltI (a := 300) (b := Q.length) (by omega) (by omega)) (fun h1 => ?_) (fun h1 => ?_)
        · refine mGo_run (n := 400) ok rfl ?_
          exact mGo_ret ok rfl (Or.inl rfl) (⟨by rw [show bfs F man 0 i Q = Q from rfl, decide_eq_false (by omega)]; rfl, rfl, ht, hsq⟩)
        · refine mGo_run (n := 400) ok rfl ?_
          exact mGo_ret ok rfl (Or.inr rfl) (⟨by rw [show bfs F man 0 i Q = Q from rfl, decide_eq_true (by omega)]; rfl, rfl, ht, hsq⟩)
      · omega
    | succ n ih =>
      intro i hi τ Q L2 L3 L4 L5 ht hsq hnq hlq
      have stop : ¬ (i < Q.length ∧ Q.length ≤ 300) → mGo g l (d + 3) md_X9_meetAll (SH lk ex).length (mTot (SH lk ex)) (107, [some (.ref 48), some (.int (nI i)), L2, L3, L4, L5], [], SH lk ex, τ) (fun r sp σ1 => r = some (.int (bI (decide ((bfs F man (n + 1) i Q).length ≤ 300)))) ∧ sp = SH lk ex ∧ (frS σ σ1 ∧ sM σ1 (bfs F man (n + 1) i Q) (fun _ => 0))) := by
        intro hx
        have eb : bfs F man (n + 1) i Q = Q := by simp only [bfs]; rw [if_neg hx]
        rw [eb]
        refine mGo_run (n := 400) ok rfl ?_
        rw [hsq.1]
        refine mGo_ifI ok rfl (nI_ltI (a := 300) (b := Q.length) (by omega) (by omega)) (fun h1 => ?_) (fun h1 => ?_)
        · refine mGo_run (n := 400) ok rfl ?_
          exact mGo_ret ok rfl (Or.inl rfl) (⟨by rw [decide_eq_false (by omega)]; rfl, rfl, ht, hsq⟩)
        · refine mGo_run (n := 400) ok rfl ?_
          exact mGo_ret ok rfl (Or.inr rfl) (⟨by rw [decide_eq_true (by omega)]; rfl, rfl, ht, hsq⟩)
      refine mGo_run (n := 400) ok rfl ?_
      rw [hsq.1]
      refine mGo_ifI ok rfl (nI_leI (a := Q.length) (b := i) (by omega) (by omega)) (fun h => ?_) (fun h => ?_)
      · exact stop (by omega)
      · refine mGo_run (n := 400) ok rfl ?_
        rw [hsq.1]
        refine mGo_ifI ok rfl (nI_ltI (a := 300) (b := Q.length) (by omega) (by omega)) (fun h1 => ?_) (fun h1 => ?_)
        · exact stop (by omega)
        · have eb : bfs F man (n + 1) i Q = bfs F man n (i + 1) (meets Q (alR F man (at0 Q i))) := by simp only [bfs]; rw [if_pos ⟨by omega, by omega⟩]
          rw [eb]
          have hml := mvs_len hf (at0 Q i).1 (at0 Q i).2
          refine mGo_run (n := 400) ok rfl ?_
          refine mGo_callV ok rfl (by omega) (m_stand (d := d) hsq hlq (i := i) (by omega)) (fun τ1 hτ1 => ?_)
          subst hτ1
          refine mGo_run (n := 400) ok rfl ?_
          refine mGo_callP ok rfl (by omega) (m_countMoves (d := d) hf ((ht.trans (frS_now _ _)).mF hm) (c := (at0 Q i).1) (o := (at0 Q i).2) ⟨by simp [WL_at], by simp [WL_at]⟩) ?_
          refine mGo_runS 32 (n := 400) ok rfl ?_
          have moves : ∀ (rest pre : List (Nat × Nat)), mvs F (at0 Q i).1 (at0 Q i).2 = pre ++ rest → ∀ (τ : mHp) (Qc : List aP) (L4 L5 : Option Value), frS σ τ → sM τ Qc (fun _ => 0) → nd Qc → Qc.length ≤ 301 → pfx Q Qc → mGo g l (d + 3) md_X9_meetAll (SH lk ex).length (mTot (SH lk ex)) (32, [some (.ref 48), some (.int (nI i)), some (.int (nI (mvs F (at0 Q i).1 (at0 Q i).2).length)), some (.int (nI pre.length)), L4, L5], [], SH lk ex, τ) (fun r sp σ1 => r = some (.int (bI (decide ((bfs F man n (i + 1) (meets Qc (rest.flatMap (rps F man (at0 Q i))))).length ≤ 300)))) ∧ sp = SH lk ex ∧ (frS σ σ1 ∧ sM σ1 (bfs F man n (i + 1) (meets Qc (rest.flatMap (rps F man (at0 Q i))))) (fun _ => 0))) := by
            intro rest
            induction rest with
            | nil =>
              intro pre hp τ Qc L4 L5 ht hsq hnq hlq hpf
              rw [List.append_nil] at hp
              have hpl : pre.length ≤ 112 := by rw [← hp]; exact hml
              refine mGo_run (n := 400) ok rfl ?_
              refine mGo_ifI ok rfl (nI_leI (a := (mvs F (at0 Q i).1 (at0 Q i).2).length) (b := pre.length) (by omega) (by omega)) (fun h2 => ?_) (fun h2 => ?_)
              · refine mGo_runS 2 (n := 400) ok rfl ?_
                rw [nI_1]
                exact ih (i + 1) (by omega) τ Qc _ _ _ _ ht hsq hnq hlq
              · rw [hp] at h2; omega
            | cons q rest ihm =>
              intro pre hp τ Qc L4 L5 ht hsq hnq hlq hpf
              have hpl : pre.length < (mvs F (at0 Q i).1 (at0 Q i).2).length := by rw [hp]; simp
              have hat : (mvs F (at0 Q i).1 (at0 Q i).2)[pre.length]? = some q := by rw [hp]; simp
              have ho := mvs_at hf hat
              have hr3 := rpN_le F q
              have hiQ : i < Qc.length := by have := hpf.len; omega
              have e0 : at0 Qc i = at0 Q i := at0_pfx hpf (by omega)
              refine mGo_run (n := 400) ok rfl ?_
              refine mGo_ifI ok rfl (nI_leI (a := (mvs F (at0 Q i).1 (at0 Q i).2).length) (b := pre.length) (by omega) (by omega)) (fun h2 => ?_) (fun h2 => ?_)
              · omega
              · refine mGo_run (n := 400) ok rfl ?_
                rw [hsq.1]
                refine mGo_ifI ok rfl (nI_ltI (a := 300) (b := Qc.length) (by omega) (by omega)) (fun h3 => ?_) (fun h3 => ?_)
                · rw [meets_full _ (by omega)]
                  refine mGo_runS 2 (n := 400) ok rfl ?_
                  rw [nI_1]
                  exact ih (i + 1) (by omega) τ Qc _ _ _ _ ht hsq hnq hlq
                · refine mGo_run (n := 400) ok rfl ?_
                  refine mGo_callV ok rfl (by omega) (m_stand (d := d) hsq hlq hiQ) (fun τ1 hτ1 => ?_)
                  rw [e0] at hτ1
                  have t1 : frS σ τ1 := by rw [hτ1]; exact ht.trans (frS_now _ _)
                  have s1 : sM τ1 Qc (fun _ => 0) := by rw [hτ1]; exact sM_now _ _ hsq
                  have q1 : mQ τ1 (at0 Q i).1 (at0 Q i).2 := by rw [hτ1]; exact ⟨by simp [WL_at], by simp [WL_at]⟩
                  clear hτ1
                  refine mGo_run (n := 400) ok rfl ?_
                  refine mGo_callR ok rfl (by omega) (m_find1 (d := d) hf (t1.mF hm) q1 hat) (fun τ2 hτ2 => ?_)
                  have t2 : frS σ τ2 := by rw [hτ2]; exact t1.trans (frS_48 (frL_mv _ _).1 (frL_mv _ _).2 (by decide))
                  have s2 : sM τ2 Qc (fun _ => 0) := by rw [hτ2]; exact sM_L (frL_mv _ _).1 (frL_mv _ _).2 s1
                  have v2 : mV τ2 q := by rw [hτ2]; exact mV_mk q
                  clear hτ2
                  refine mGo_run (n := 400) ok rfl ?_
                  refine mGo_callP ok rfl (by omega) (m_countReplies (d := d) hf (t2.mF hm) v2 ho) ?_
                  refine mGo_runS 67 (n := 400) ok rfl ?_
                  have reps : ∀ m r, r + m = rpN F q → ∀ (τ : mHp) (Qd : List aP), frS σ τ → sM τ Qd (fun _ => 0) → mV τ q → nd Qd → Qd.length ≤ 301 → pfx Q Qd → mGo g l (d + 3) md_X9_meetAll (SH lk ex).length (mTot (SH lk ex)) (67, [some (.ref 48), some (.int (nI i)), some (.int (nI (mvs F (at0 Q i).1 (at0 Q i).2).length)), some (.int (nI pre.length)), some (.int (nI (rpN F q))), some (.int (nI r))], [], SH lk ex, τ) (fun r2 sp σ1 => r2 = some (.int (bI (decide ((bfs F man n (i + 1) (meets (meets Qd ((List.range' r m).map (fun r => rpP F man (at0 Q i).1 (at0 Q i).2 q r))) (rest.flatMap (rps F man (at0 Q i))))).length ≤ 300)))) ∧ sp = SH lk ex ∧ (frS σ σ1 ∧ sM σ1 (bfs F man n (i + 1) (meets (meets Qd ((List.range' r m).map (fun r => rpP F man (at0 Q i).1 (at0 Q i).2 q r))) (rest.flatMap (rps F man (at0 Q i))))) (fun _ => 0))) := by
                    intro m
                    induction m with
                    | zero =>
                      intro r hr τ Qd t s v n1 n2 n3
                      refine mGo_run (n := 400) ok rfl ?_
                      refine mGo_ifI ok rfl (nI_leI (a := rpN F q) (b := r) (by omega) (by omega)) (fun h4 => ?_) (fun h4 => ?_)
                      · refine mGo_runS 32 (n := 400) ok rfl ?_
                        rw [nI_1, show pre.length + 1 = (pre ++ [q]).length by simp]
                        exact ihm (pre ++ [q]) (by rw [hp]; simp) τ Qd _ _ t s n1 n2 n3
                      · omega
                    | succ m ihr =>
                      intro r hr τ Qd t s v n1 n2 n3
                      have hiD : i < Qd.length := by have := n3.len; omega
                      have e1 : at0 Qd i = at0 Q i := at0_pfx n3 (by omega)
                      refine mGo_run (n := 400) ok rfl ?_
                      refine mGo_ifI ok rfl (nI_leI (a := rpN F q) (b := r) (by omega) (by omega)) (fun h4 => ?_) (fun h4 => ?_)
                      · omega
                      · refine mGo_run (n := 400) ok rfl ?_
                        refine mGo_callV ok rfl (by omega) (m_stand (d := d) s n2 hiD) (fun τ3 hτ3 => ?_)
                        rw [e1] at hτ3
                        have t3 : frS σ τ3 := by rw [hτ3]; exact t.trans (frS_now _ _)
                        have s3 : sM τ3 Qd (fun _ => 0) := by rw [hτ3]; exact sM_now _ _ s
                        have q3 : mQ τ3 (at0 Q i).1 (at0 Q i).2 := by rw [hτ3]; exact ⟨by simp [WL_at], by simp [WL_at]⟩
                        have v3 : mV τ3 q := by rw [hτ3]; exact v
                        clear hτ3
                        refine mGo_run (n := 400) ok rfl ?_
                        refine mGo_callV ok rfl (by omega) (m_reply (d := d) hf (t3.mF hm) q3 (by rw [(t3.2 17 (by decide)).1]; exact hman) hm1 v3 ho (r := r) (by omega)) (fun τ4 hτ4 => ?_)
                        have t4 : frS σ τ4 := t3.trans (frS_48 hτ4.1 hτ4.2.1 (by decide))
                        have s4 : sM τ4 Qd (fun _ => 0) := sM_L hτ4.1 (hτ4.2.1.wide (by decide)) s3
                        have v4 : mV τ4 q := ⟨by rw [(hτ4.2.1 18 (by decide)).1]; exact v3.1, by rw [(hτ4.2.1 19 (by decide)).1]; exact v3.2⟩
                        refine mGo_run (n := 400) ok rfl ?_
                        refine mGo_callV ok rfl (by omega) (m_meet (d := d) s4 n1 n2 hτ4.2.2) (fun τ5 hτ5 => ?_)
                        have v5 : mV τ5 q := ⟨by rw [(hτ5.2.1 18 (by decide)).1]; exact v4.1, by rw [(hτ5.2.1 19 (by decide)).1]; exact v4.2⟩
                        refine mGo_runS 67 (n := 400) ok rfl ?_
                        rw [nI_1]
                        exact ihr (r + 1) (by omega) τ5 _ (t4.trans hτ5.1) hτ5.2.2 v5 (addP_nd n1 _) (addP_len _ n2) (n3.trans (addP_pfx _ _))
                  have := reps (rpN F q) 0 (by omega) τ2 Qc t2 s2 v2 hnq hlq hpf
                  rw [← range_r] at this
                  rw [show (q :: rest).flatMap (rps F man (at0 Q i)) = rps F man (at0 Q i) q ++ rest.flatMap (rps F man (at0 Q i)) by simp, meets_app]
                  exact this
          exact moves _ [] rfl _ Q _ _ (ht.trans (frS_now _ _)) (sM_now _ _ hsq) hnq hlq pfx.refl
  exact outer 302 0 (by omega) σ P _ _ _ _ frS.refl hs hn hl
end T
