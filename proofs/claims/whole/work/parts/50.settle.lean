/-! the class Search: ranks -/
/-- the search after exploring: ranks R -/
def sR (σ : mHp) (F : aF) (man : Nat) (P : List aP) (k : Nat) (R : Nat → Nat) : Prop := sP σ P R ∧ lE σ k (ENC F man P P.length) ∧ ∀ j, j < P.length → σ.1 27 j = nI (ENC F man P j).length ∧ σ.1 27 (j + 1) = nI (ENC F man P (j + 1)).length
theorem ENC_split {F : aF} {man : Nat} {P : List aP} {i : Nat} : ∀ {n : Nat}, i < n → ∃ B, ENC F man P n = ENC F man P i ++ (enc F man P i ++ B) := by
  intro n
  induction n with
  | zero => intro h; omega
  | succ n ih =>
    intro h
    rcases Nat.lt_or_ge i n with z | z
    · obtain ⟨B, hB⟩ := ih z
      exact ⟨B ++ enc F man P n, by rw [ENC_s, hB]; simp⟩
    · have : i = n := by omega
      subst this
      exact ⟨[], by rw [ENC_s]; simp⟩
section T
variable {g : mG} {l : Launch} {d : Nat} {σ : mHp} {F : aF} {man : Nat} {P : List aP} {R : Nat → Nat}
theorem c_areBelow {k : Nat} (hk : k ≤ 7) {E : List Nat} (hE : lE σ k E) (hs : sP σ P R) (hP : P.length ≤ 300) (hR : ∀ i, i < P.length → R i ≤ 400) {A ns B : List Nat} (he : E = A ++ (ns ++ B)) (hns : ∀ x ∈ ns, x < P.length) {b L : Nat} (hb : b + 1 = A.length + ns.length) (hL : L ≤ 400) : mNP g l d 44 [.ref 21, .int (nI A.length), .int (nI b), .int (nI L)] (lkL k) (exL k) σ (.int (bI (ns.all (fun x => decide (1 ≤ R x ∧ R x < L))))) := by
  have hp := pow_le7 hk
  have hEl := hE.2.1
  have hlen : A.length + ns.length ≤ E.length := by rw [he, List.length_append, List.length_append]; omega
  have ok : mOkP md_X4_areBelow := ok_at 44 (by decide) rfl
  refine mC_of (md := md_X4_areBelow) rfl (lt_at (by decide)) rfl ?_
  refine mGo_runS 3 (n := 400) ok rfl ?_
  have loop : ∀ (rest pre : List Nat) (L5 : Option Value), ns = pre ++ rest → mGo g l d md_X4_areBelow (SH (lkL k) (exL k)).length (mTot (SH (lkL k) (exL k))) (3, [some (.ref 21), some (.int (nI A.length)), some (.int (nI b)), some (.int (nI L)), some (.int (nI (A.length + pre.length))), L5], [], SH (lkL k) (exL k), σ) (fun r sp σ1 => r = some (.int (bI (rest.all (fun x => decide (1 ≤ R x ∧ R x < L))))) ∧ sp = SH (lkL k) (exL k) ∧ σ1 = σ) := by
    intro rest
    induction rest with
    | nil =>
      intro pre L5 hn
      have hnl : ns.length = pre.length := by rw [hn]; simp
      refine mGo_run (n := 400) ok rfl ?_
      refine mGo_ifI ok rfl (nI_ltI (a := b) (b := A.length + pre.length) (by omega) (by omega)) (fun h => ?_) (fun h => ?_)
      · refine mGo_run (n := 400) ok rfl ?_
        exact mGo_ret ok rfl (Or.inr rfl) (⟨rfl, rfl, rfl⟩)
      · omega
    | cons x rest ih =>
      intro pre L5 hn
      have hnl : ns.length = pre.length + rest.length + 1 := by rw [hn]; simp; omega
      have hx : x < P.length := hns x (by rw [hn]; simp)
      have hRx := hR x hx
      have hat : σ.1 (lkL k) (A.length + pre.length) = nI x := hE.2.2 _ _ (by
        rw [he, List.getElem?_append_right (by omega), hn]
        simp)
      have rx := (hs.2.1 x _ (at0_at hx)).2.2
      have bad : ¬ (1 ≤ R x ∧ R x < L) → ∀ L5, mGo g l d md_X4_areBelow (SH (lkL k) (exL k)).length (mTot (SH (lkL k) (exL k))) (63, [some (.ref 21), some (.int (nI A.length)), some (.int (nI b)), some (.int (nI L)), some (.int (nI (A.length + pre.length))), L5], [], SH (lkL k) (exL k), σ) (fun r sp σ1 => r = some (.int (bI ((x :: rest).all (fun x => decide (1 ≤ R x ∧ R x < L))))) ∧ sp = SH (lkL k) (exL k) ∧ σ1 = σ) := by
        intro hno L5
        refine mGo_run (n := 400) ok rfl ?_
        exact mGo_ret ok rfl (Or.inl rfl) (⟨by rw [List.all_cons, decide_eq_false hno]; rfl, rfl, rfl⟩)
      refine mGo_run (n := 400) ok rfl ?_
      refine mGo_ifI ok rfl (nI_ltI (a := b) (b := A.length + pre.length) (by omega) (by omega)) (fun h => ?_) (fun h => ?_)
      · omega
      · refine mGo_runS 15 (n := 400) ok rfl ?_
        refine mGo_len ok rfl (SK_lk k) (lkL_lt hk) ?_
        refine mGo_ifI ok rfl (nI_leI (a := 2048 * 2 ^ k) (b := A.length + pre.length) (by omega) (by omega)) (fun h1 => ?_) (fun h1 => ?_)
        · omega
        · refine mGo_runS 25 (n := 400) ok rfl ?_
          refine mGo_ild ok rfl (SK_lk k) (lkL_lt hk) (nI_in (by omega) (by omega)) ?_
          rw [nI_clamp (by omega), hat]
          refine mGo_run (n := 400) ok rfl ?_
          refine mGo_if ok rfl (fun h2 => ?_) (fun h2 => ?_)
          · exact absurd h2 (nI_pos (by omega))
          · refine mGo_run (n := 400) ok rfl ?_
            rw [hs.1]
            refine mGo_ifI ok rfl (nI_leI (a := P.length) (b := x) (by omega) (by omega)) (fun h3 => ?_) (fun h3 => ?_)
            · omega
            · refine mGo_run (n := 400) ok rfl ?_
              refine mGo_side ok rfl (nI_in (by omega) (by omega)) ?_
              rw [nI_clamp (n := x) (by omega), rx]
              refine mGo_ifI ok rfl (nI_eq (a := R x) (b := 0) (by omega) (by omega)) (fun h4 => ?_) (fun h4 => ?_)
              · exact bad (by omega) _
              · refine mGo_run (n := 400) ok rfl ?_
                refine mGo_side ok rfl (nI_in (by omega) (by omega)) ?_
                rw [nI_clamp (n := x) (by omega), rx]
                refine mGo_run (n := 400) ok rfl ?_
                refine mGo_ifI ok rfl (nI_ltI (a := R x) (b := L) (by omega) (by omega)) (fun h5 => ?_) (fun h5 => ?_)
                · refine mGo_runS 3 (n := 400) ok rfl ?_
                  rw [nI_1, List.all_cons, decide_eq_true (show 1 ≤ R x ∧ R x < L from ⟨by omega, h5⟩), Bool.true_and]
                  have := ih (pre ++ [x]) (some (.int (nI x))) (by rw [hn]; simp)
                  rw [List.length_append, List.length_singleton, ← Nat.add_assoc] at this
                  exact this
                · exact bad (by omega) _
  have := loop ns [] none rfl
  exact this
theorem c_winsWithin (hf : fOk F) {k : Nat} (hk : k ≤ 7) (hs : sR σ F man P k R) (hP : P.length ≤ 300) (hR : ∀ i, i < P.length → R i ≤ 400) (hc : ∀ i, i < P.length → clo F man P (at0 P i)) {i L : Nat} (hi : i < P.length) (h0 : R i = 0) (hL : L ≤ 400) : mNP g l (d + 1) 43 [.ref 21, .int (nI i), .int (nI L)] (lkL k) (exL k) σ (.int (bI (winB F man P R L i))) := by
  obtain ⟨s1, s2, s3⟩ := hs
  obtain ⟨v1, v2⟩ := s3 i hi
  have hp := pow_le7 hk
  have hEl := s2.2.1
  have hElen := ENC_len (F := F) (man := man) hf (P := P) P.length
  obtain ⟨B, hB⟩ := ENC_split (F := F) (man := man) (P := P) hi
  have hBl := congrArg List.length hB
  simp only [List.length_append] at hBl
  have hs1 : (ENC F man P (i + 1)).length = (ENC F man P i).length + (enc F man P i).length := by rw [ENC_s]; simp
  have ok : mOkP md_X4_winsWithin := ok_at 43 (by decide) rfl
  refine mC_of (md := md_X4_winsWithin) rfl (lt_at (by decide)) rfl ?_
  refine mGo_run (n := 400) ok rfl ?_
  rw [nI_1]
  refine mGo_side ok rfl (nI_in (by omega) (by omega)) ?_
  rw [nI_clamp (n := i + 1) (by omega), v2]
  refine mGo_runS 12 (n := 400) ok rfl ?_
  refine mGo_len ok rfl (SK_lk k) (lkL_lt hk) ?_
  refine mGo_callP ok rfl (by omega) (c_min (d := d) (nI (ENC F man P (i + 1)).length) (nI (2048 * 2 ^ k))) ?_
  rw [if_neg (nI_nlt (by omega) (by omega))]
  refine mGo_run (n := 400) ok rfl ?_
  refine mGo_side ok rfl (nI_in (by omega) (by omega)) ?_
  rw [nI_clamp (n := i) (by omega), v1]
  refine mGo_runS 28 (n := 400) ok rfl ?_
  have loop : ∀ (rest : List (Nat × Nat)) (A X : List Nat) (L4 : Option Value), (∀ q ∈ rest, q ∈ mvs F (at0 P i).1 (at0 P i).2) → X = rest.flatMap (mvL F man P i (at0 P i)) → ENC F man P P.length = A ++ (X ++ B) → A.length + X.length = (ENC F man P (i + 1)).length → mGo g l (d + 1) md_X4_winsWithin (SH (lkL k) (exL k)).length (mTot (SH (lkL k) (exL k))) (28, [some (.ref 21), some (.int (nI i)), some (.int (nI L)), some (.int (nI (ENC F man P (i + 1)).length)), L4, some (.int (nI A.length))], [], SH (lkL k) (exL k), σ) (fun r sp σ1 => r = some (.int (bI (rest.any (fun q => (rps F man (at0 P i) q).all (fun x => decide (1 ≤ R (ix P x) ∧ R (ix P x) < L)))))) ∧ sp = SH (lkL k) (exL k) ∧ σ1 = σ) := by
    intro rest
    induction rest with
    | nil =>
      intro A X L4 hin hX hE hl
      have hX : X = [] := hX
      subst hX
      simp only [List.length_nil] at hl
      refine mGo_run (n := 400) ok rfl ?_
      refine mGo_ifI ok rfl (nI_leI (a := (ENC F man P (i + 1)).length) (b := A.length) (by omega) (by omega)) (fun h => ?_) (fun h => ?_)
      · refine mGo_run (n := 400) ok rfl ?_
        exact mGo_ret ok rfl (Or.inl rfl) (⟨rfl, rfl, rfl⟩)
      · omega
    | cons q rest ih =>
      intro A X L4 hin hX hE hl
      have hq := hin q List.mem_cons_self
      rw [List.flatMap_cons] at hX
      by_cases hself : i ∈ (rps F man (at0 P i) q).map (ix P)
      · have e1 : mvL F man P i (at0 P i) q = [] := by unfold mvL; rw [if_pos hself]
        have e2 : (rps F man (at0 P i) q).all (fun x => decide (1 ≤ R (ix P x) ∧ R (ix P x) < L)) = false := by
          obtain ⟨x, hx, hxi⟩ := List.mem_map.mp hself
          cases z : (rps F man (at0 P i) q).all (fun x => decide (1 ≤ R (ix P x) ∧ R (ix P x) < L)) with
          | false => rfl
          | true =>
            have := of_decide_eq_true (List.all_eq_true.mp z x hx)
            rw [hxi, h0] at this
            omega
        rw [e1, List.nil_append] at hX
        rw [List.any_cons, e2, Bool.false_or]
        exact ih A X L4 (fun q1 hq1 => hin q1 (List.mem_cons_of_mem _ hq1)) hX hE hl
      · have e1 : mvL F man P i (at0 P i) q = rpN F q :: (rps F man (at0 P i) q).map (ix P) := by unfold mvL; rw [if_neg hself]
        have rl : ((rps F man (at0 P i) q).map (ix P)).length = rpN F q := by simp [rps]
        have hr3 := rpN_le F q
        rw [e1] at hX
        have hX1 : X = rpN F q :: ((rps F man (at0 P i) q).map (ix P) ++ rest.flatMap (mvL F man P i (at0 P i))) := by rw [hX]; rfl
        have hXl : X.length = 1 + rpN F q + (rest.flatMap (mvL F man P i (at0 P i))).length := by rw [hX1, List.length_cons, List.length_append, rl]; omega
        have hA : σ.1 (lkL k) A.length = nI (rpN F q) := s2.2.2 _ _ (by rw [hE, hX1]; simp)
        refine mGo_run (n := 400) ok rfl ?_
        refine mGo_ifI ok rfl (nI_leI (a := (ENC F man P (i + 1)).length) (b := A.length) (by omega) (by omega)) (fun h => ?_) (fun h => ?_)
        · omega
        · refine mGo_runS 46 (n := 400) ok rfl ?_
          refine mGo_ild ok rfl (SK_lk k) (lkL_lt hk) (nI_in (by omega) (by omega)) ?_
          rw [nI_clamp (by omega), hA]
          refine mGo_callP ok rfl (by omega) (c_max (d := d) 0 (nI (rpN F q))) ?_
          rw [show (if (0 : Int32) < nI (rpN F q) then nI (rpN F q) else 0) = nI (rpN F q) by
            by_cases z : (0 : Int32) < nI (rpN F q)
            · rw [if_pos z]
            · rw [if_neg z]
              have : rpN F q = 0 := by
                rcases Nat.eq_zero_or_pos (rpN F q) with y | y
                · exact y
                · exact absurd (nI_lt (a := 0) y (by omega)) z
              rw [this]; rfl]
          refine mGo_run (n := 400) ok rfl ?_
          rw [nI_add, show nI (ENC F man P (i + 1)).length - 1 = nI ((ENC F man P (i + 1)).length - 1) by
            have := nI_pred ((ENC F man P (i + 1)).length - 1)
            rw [show (ENC F man P (i + 1)).length - 1 + 1 = (ENC F man P (i + 1)).length by omega] at this
            exact this]
          refine mGo_callP ok rfl (by omega) (c_min (d := d) (nI ((ENC F man P (i + 1)).length - 1)) (nI (A.length + rpN F q))) ?_
          rw [show (if nI (A.length + rpN F q) < nI ((ENC F man P (i + 1)).length - 1) then nI (A.length + rpN F q) else nI ((ENC F man P (i + 1)).length - 1)) = nI (A.length + rpN F q) by
            by_cases z : A.length + rpN F q < (ENC F man P (i + 1)).length - 1
            · rw [if_pos (nI_lt z (by omega))]
            · rw [if_neg (nI_nlt (by omega) (by omega))]
              congr 1
              omega]
          refine mGo_run (n := 400) ok rfl ?_
          rw [nI_1]
          have AB := c_areBelow (g := g) (l := l) (d := d) hk s2 s1 hP hR (A := A ++ [rpN F q]) (ns := (rps F man (at0 P i) q).map (ix P)) (B := rest.flatMap (mvL F man P i (at0 P i)) ++ B) (by rw [hE, hX1]; simp) (fun x hx => by
            obtain ⟨y, hy, rfl⟩ := List.mem_map.mp hx
            exact ix_lt (hc i hi q hq y hy)) (b := A.length + rpN F q) (by rw [rl, List.length_append, List.length_singleton]; omega) hL
          rw [List.length_append, List.length_singleton, List.all_map] at AB
          refine mGo_callP ok rfl (by omega) (AB) ?_
          rw [List.any_cons]
          refine mGo_ifI ok rfl (bI_0) (fun h1 => ?_) (fun h1 => ?_)
          · have h2 : (rps F man (at0 P i) q).all (fun x => decide (1 ≤ R (ix P x) ∧ R (ix P x) < L)) = false := h1
            rw [h2, Bool.false_or]
            refine mGo_runS 28 (n := 400) ok rfl ?_
            rw [nI_1]
            have := ih (A ++ (rpN F q :: (rps F man (at0 P i) q).map (ix P))) (rest.flatMap (mvL F man P i (at0 P i))) (some (.int (nI (A.length + rpN F q)))) (fun q1 hq1 => hin q1 (List.mem_cons_of_mem _ hq1)) rfl (by rw [hE, hX1]; simp) (by rw [List.length_append, List.length_cons, rl]; omega)
            rw [List.length_append, List.length_cons, rl, ← Nat.add_assoc] at this
            exact this
          · have h2 : (rps F man (at0 P i) q).all (fun x => decide (1 ≤ R (ix P x) ∧ R (ix P x) < L)) = true := by
              cases z : (rps F man (at0 P i) q).all (fun x => decide (1 ≤ R (ix P x) ∧ R (ix P x) < L)) with
              | true => rfl
              | false => exact absurd z h1
            rw [h2, Bool.true_or]
            refine mGo_run (n := 400) ok rfl ?_
            exact mGo_ret ok rfl (Or.inr rfl) (⟨rfl, rfl, rfl⟩)
  exact loop (mvs F (at0 P i).1 (at0 P i).2) (ENC F man P i) (enc F man P i) _ (fun q hq => hq) rfl hB hs1.symm
end T
