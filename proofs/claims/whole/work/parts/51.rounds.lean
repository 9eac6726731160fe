/-! the class Search: the rounds of ranks -/
theorem sR_congr {σ : mHp} {F : aF} {man : Nat} {P : List aP} {k : Nat} {R R1 : Nat → Nat} (h : ∀ i, i < P.length → R1 i = R i) (hs : sR σ F man P k R) : sR σ F man P k R1 := by
  obtain ⟨⟨c1, c2, c3⟩, s2, s3⟩ := hs
  refine ⟨⟨c1, fun i p hp => ?_, c3⟩, s2, s3⟩
  obtain ⟨a, b, c⟩ := c2 i p hp
  exact ⟨a, b, by rw [h i (List.getElem?_eq_some_iff.mp hp).1]; exact c⟩
/-- a rank is written -/
theorem sR_set {σ : mHp} {F : aF} {man : Nat} {P : List aP} {k i v : Nat} {R R1 : Nat → Nat} (hs : sR σ F man P k R) (h1 : R1 i = v) (h2 : ∀ j, j ≠ i → R1 j = R j) : sR (mWI σ 24 i (nI v)) F man P k R1 := by
  obtain ⟨⟨c1, c2, c3⟩, s2, s3⟩ := hs
  have e : ∀ c, c ≠ 24 → (mWI σ 24 i (nI v)).1 c = σ.1 c := fun c hc => by funext z; rw [WI_at, if_neg (fun y => hc y.1)]
  refine ⟨⟨by rw [e 21 (by decide)]; exact c1, fun j p hp => ?_, by rw [e 25 (by decide)]; exact c3⟩, ⟨by rw [e 21 (by decide)]; exact s2.1, s2.2.1, fun j x hx => ?_⟩, by rw [e 27 (by decide)]; exact s3⟩
  · obtain ⟨a, b, c⟩ := c2 j p hp
    refine ⟨a, b, ?_⟩
    by_cases z : j = i
    · rw [WI_at, if_pos ⟨rfl, z⟩, z, h1]
    · rw [WI_at, if_neg (fun y => z y.2), h2 j z]; exact c
  · rw [e (lkL k) (by unfold lkL; split <;> omega)]; exact s2.2.2 j x hx
/-- during a round from the last position on: those from i on are new -/
def mdD (F : aF) (man : Nat) (P : List aP) (L i : Nat) (j : Nat) : Nat := if i ≤ j then rk F man P (L + 1) j else rk F man P L j
section T
variable {g : mG} {l : Launch} {d : Nat} {σ : mHp} {F : aF} {man : Nat} {P : List aP}
theorem mdD_le {L i j : Nat} : mdD F man P L i j ≤ L + 1 := by
  unfold mdD
  split
  · exact rk_le _ _
  · have := rk_le (F := F) (man := man) (P := P) L j; omega
theorem mdD_win {L i j : Nat} : winB F man P (mdD F man P L i) (L + 1) j = winB F man P (rk F man P L) (L + 1) j := by
  apply winB_congr
  intro q hq x hx
  unfold mdD
  split
  · simp only [rk]
    have := rk_le (F := F) (man := man) (P := P) L (ix P x)
    by_cases y : rk F man P L (ix P x) = 0 ∧ winB F man P (rk F man P L) (L + 1) (ix P x) = true
    · rw [if_pos y]; omega
    · rw [if_neg y]
  · exact Iff.rfl
set_option maxHeartbeats 1000000 in
theorem c_settleRanks (hf : fOk F) {k : Nat} (hk : k ≤ 7) (hs : sR σ F man P k (fun _ => 0)) (hP : P.length ≤ 300) (hc : ∀ i, i < P.length → clo F man P (at0 P i)) : mNV g l (d + 2) 42 [.ref 21] (lkL k) (exL k) σ (fun σ1 => fs [24] σ σ1 ∧ sR σ1 F man P k (gR F man P)) := by
  have ok : mOkP md_X4_settleRanks := ok_at 42 (by decide) rfl
  refine mC_of (md := md_X4_settleRanks) rfl (lt_at (by decide)) rfl ?_
  refine mGo_runS 4 (n := 400) ok rfl ?_
  have rounds : ∀ m L, L + m = P.length → ∀ (τ : mHp) (fl : Bool) (L3 : Option Value), (fl = false → 1 ≤ L ∧ ∀ j, j < P.length → rk F man P L j = rk F man P (L - 1) j) → fs [24] σ τ → sR τ F man P k (rk F man P L) → mGo g l (d + 2) md_X4_settleRanks (SH (lkL k) (exL k)).length (mTot (SH (lkL k) (exL k))) (4, [some (.ref 21), some (.int (bI fl)), some (.int (nI (L + 1))), L3], [], SH (lkL k) (exL k), τ) (fun r sp σ1 => r = none ∧ sp = SH (lkL k) (exL k) ∧ (fs [24] σ σ1 ∧ sR σ1 F man P k (gR F man P))) := by
    intro m
    induction m with
    | zero =>
      intro L hL τ fl L3 hfl t s
      have e : L = P.length := by omega
      subst e
      refine mGo_run (n := 400) ok rfl ?_
      rw [s.1.1]
      refine mGo_ifI ok rfl (nI_ltI (a := P.length) (b := P.length + 1) (by omega) (by omega)) (fun h => ?_) (fun h => ?_)
      · refine mGo_run (n := 400) ok rfl ?_
        exact mGo_ret ok rfl trivial (⟨rfl, rfl, t, s⟩)
      · omega
    | succ m ih =>
      intro L hL τ fl L3 hfl t s
      refine mGo_run (n := 400) ok rfl ?_
      rw [s.1.1]
      refine mGo_ifI ok rfl (nI_ltI (a := P.length) (b := L + 1) (by omega) (by omega)) (fun h => ?_) (fun h => ?_)
      · omega
      · refine mGo_run (n := 400) ok rfl ?_
        refine mGo_ifI ok rfl (bI_0) (fun h1 => ?_) (fun h1 => ?_)
        · obtain ⟨g1, g2⟩ := hfl h1
          have hst : ∀ j, j < P.length → rk F man P (L - 1 + 1) j = rk F man P (L - 1) j := by rw [show L - 1 + 1 = L by omega]; exact g2
          have e := rk_last hc hst
          refine mGo_run (n := 400) ok rfl ?_
          exact mGo_ret ok rfl trivial (⟨rfl, rfl, t, sR_congr (fun i hi => by rw [g2 i hi, e i hi]; rfl) s⟩)
        · refine mGo_runS 25 (n := 400) ok rfl ?_
          rw [s.1.1]
          have poss : ∀ i, i ≤ P.length → ∀ (τ : mHp) (fl : Bool), (fl = false → ∀ j, i ≤ j → j < P.length → rk F man P (L + 1) j = rk F man P L j) → fs [24] σ τ → sR τ F man P k (mdD F man P L i) → mGo g l (d + 2) md_X4_settleRanks (SH (lkL k) (exL k)).length (mTot (SH (lkL k) (exL k))) (25, [some (.ref 21), some (.int (bI fl)), some (.int (nI (L + 1))), some (.int (nI i - 1))], [], SH (lkL k) (exL k), τ) (fun r sp σ1 => r = none ∧ sp = SH (lkL k) (exL k) ∧ (fs [24] σ σ1 ∧ sR σ1 F man P k (gR F man P))) := by
            intro i
            induction i with
            | zero =>
              intro hi τ fl hfl t s
              refine mGo_run (n := 400) ok rfl ?_
              refine mGo_if ok rfl (fun h2 => ?_) (fun h2 => ?_)
              · refine mGo_runS 4 (n := 400) ok rfl ?_
                rw [nI_1]
                exact ih (L + 1) (by omega) τ fl _ (fun z => ⟨by omega, fun j hj => hfl z j (Nat.zero_le _) hj⟩) t (sR_congr (fun j _ => by unfold mdD; rw [if_pos (Nat.zero_le _)]) s)
              · exact absurd (by decide) h2
            | succ i ihp =>
              intro hi τ fl hfl t s
              rw [nI_pred]
              have hil : i < P.length := by omega
              have ri := (s.1.2.1 i _ (at0_at hil)).2.2
              have emi : mdD F man P L (i + 1) i = rk F man P L i := by unfold mdD; rw [if_neg (by omega)]
              rw [emi] at ri
              have rle := rk_le (F := F) (man := man) (P := P) L i
              have next : ∀ (τ : mHp) (fl : Bool), (fl = false → ∀ j, i ≤ j → j < P.length → rk F man P (L + 1) j = rk F man P L j) → fs [24] σ τ → sR τ F man P k (mdD F man P L i) → mGo g l (d + 2) md_X4_settleRanks (SH (lkL k) (exL k)).length (mTot (SH (lkL k) (exL k))) (56, [some (.ref 21), some (.int (bI fl)), some (.int (nI (L + 1))), some (.int (nI i))], [], SH (lkL k) (exL k), τ) (fun r sp σ1 => r = none ∧ sp = SH (lkL k) (exL k) ∧ (fs [24] σ σ1 ∧ sR σ1 F man P k (gR F man P))) := by
                intro τ fl hfl t s
                refine mGo_runS 25 (n := 400) ok rfl ?_
                rw [show nI i + (-1) = nI i - 1 from (Int32.sub_eq_add_neg _ _).symm]
                exact ihp (by omega) τ fl hfl t s
              have same : rk F man P (L + 1) i = rk F man P L i → mGo g l (d + 2) md_X4_settleRanks (SH (lkL k) (exL k)).length (mTot (SH (lkL k) (exL k))) (56, [some (.ref 21), some (.int (bI fl)), some (.int (nI (L + 1))), some (.int (nI i))], [], SH (lkL k) (exL k), τ) (fun r sp σ1 => r = none ∧ sp = SH (lkL k) (exL k) ∧ (fs [24] σ σ1 ∧ sR σ1 F man P k (gR F man P))) := by
                intro e
                refine next τ fl (fun z j h1 h2 => ?_) t (sR_congr (fun j hj => ?_) s)
                · rcases Nat.lt_or_ge i j with y | y
                  · exact hfl z j (by omega) h2
                  · have : j = i := by omega
                    subst this; exact e
                · unfold mdD
                  rcases Nat.lt_trichotomy j i with y | y | y
                  · rw [if_neg (by omega), if_neg (by omega)]
                  · subst y; rw [if_pos (by omega), if_neg (by omega)]; exact e
                  · rw [if_pos (by omega), if_pos (by omega)]
              refine mGo_run (n := 400) ok rfl ?_
              refine mGo_if ok rfl (fun h2 => ?_) (fun h2 => ?_)
              · exact absurd h2 (nI_pos (by omega))
              · refine mGo_run (n := 400) ok rfl ?_
                refine mGo_side ok rfl (nI_in (by omega) (by omega)) ?_
                rw [nI_clamp (n := i) (by omega), ri]
                refine mGo_ifI ok rfl (nI_eq (a := rk F man P L i) (b := 0) (by omega) (by omega)) (fun h3 => ?_) (fun h3 => ?_)
                · refine mGo_run (n := 400) ok rfl ?_
                  refine mGo_callP ok rfl (by omega) (c_winsWithin (d := d) hf hk s hP (fun j _ => by have := mdD_le (F := F) (man := man) (P := P) (L := L) (i := i + 1) (j := j); omega) hc hil (by rw [emi]; exact h3) (L := L + 1) (by omega)) ?_
                  rw [mdD_win]
                  refine mGo_ifI ok rfl (bI_0) (fun h4 => ?_) (fun h4 => ?_)
                  · exact same (by simp only [rk]; rw [if_neg (fun z => by rw [h4] at z; cases z.2)])
                  · have h5 : winB F man P (rk F man P L) (L + 1) i = true := by
                      cases z : winB F man P (rk F man P L) (L + 1) i with
                      | true => rfl
                      | false => exact absurd z h4
                    have e : rk F man P (L + 1) i = L + 1 := by simp only [rk]; rw [if_pos ⟨h3, h5⟩]
                    refine mGo_run (n := 400) ok rfl ?_
                    refine mGo_side ok rfl (nI_in (by omega) (by omega)) ?_
                    rw [nI_clamp (by omega)]
                    refine mGo_runS 56 (n := 400) ok rfl ?_
                    refine next _ true (fun z => Bool.noConfusion z) (t.WI (by decide)) (sR_set s ?_ (fun j hj => ?_))
                    · unfold mdD; rw [if_pos (Nat.le_refl _)]; exact e
                    · unfold mdD
                      by_cases y : i ≤ j
                      · rw [if_pos y, if_pos (by omega)]
                      · rw [if_neg y, if_neg (by omega)]
                · exact same (rk_keep h3)
          exact poss P.length (Nat.le_refl _) τ false (fun _ j h1 h2 => by omega) t (sR_congr (fun j hj => by unfold mdD; rw [if_neg (by omega)]) s)
  exact rounds P.length 0 (by omega) σ true none (fun z => Bool.noConfusion z) fs.refl hs
end T
