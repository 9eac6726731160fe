/-! words: the reference's letters -/
def lt (w k : Nat) : Int32 := (mSb.getD w []).getD k 0
theorem lt_out {w k : Nat} (h : mSl.getD w 0 ≤ k) (hw : w < 5) : lt w k = 0 := by
  have e : (mSb.getD w []).length = mSl.getD w 0 := by
    match w, hw with
    | 0, _ => decide
    | 1, _ => decide
    | 2, _ => decide
    | 3, _ => decide
    | 4, _ => decide
    | n + 5, h => omega
  unfold lt
  rw [List.getD_eq_getElem?_getD, List.getElem?_eq_none (by omega)]
  rfl
theorem lt_in : ∀ w, w < 5 → ∀ k, k < mSl.getD w 0 → lt w k ≠ 0 := by decide +kernel
theorem mSl_le : ∀ w, w < 5 → mSl.getD w 0 ≤ 10 := by decide +kernel
theorem qWd_of {T : aI} {w : Nat} (hw : w < 5) (h : ∀ v, v < w → spB T v = false) (h1 : spB T w = true) : qWd T = w + 1 := by
  unfold qWd
  match w, hw with
  | 0, _ => rw [if_pos h1]
  | 1, _ => rw [if_neg (by rw [h 0 (by omega)]; decide), if_pos h1]
  | 2, _ => rw [if_neg (by rw [h 0 (by omega)]; decide), if_neg (by rw [h 1 (by omega)]; decide), if_pos h1]
  | 3, _ => rw [if_neg (by rw [h 0 (by omega)]; decide), if_neg (by rw [h 1 (by omega)]; decide), if_neg (by rw [h 2 (by omega)]; decide), if_pos h1]
  | 4, _ => rw [if_neg (by rw [h 0 (by omega)]; decide), if_neg (by rw [h 1 (by omega)]; decide), if_neg (by rw [h 2 (by omega)]; decide), if_neg (by rw [h 3 (by omega)]; decide), if_pos h1]
  | n + 5, h => omega
theorem qWd_no {T : aI} (h : ∀ v, v < 5 → spB T v = false) : qWd T = 0 := by
  unfold qWd
  rw [if_neg (by rw [h 0 (by omega)]; decide), if_neg (by rw [h 1 (by omega)]; decide), if_neg (by rw [h 2 (by omega)]; decide), if_neg (by rw [h 3 (by omega)]; decide), if_neg (by rw [h 4 (by omega)]; decide)]
section T
variable {g : mG} {l : Launch} {d : Nat} {lk : Nat} {ex : mSh} {σ : mHp} {T : aI}
theorem m_letter0 {k : Nat} (hk : k ≤ 40) : mNP g l d 143 [.int (nI 0), .int (nI k)] lk ex σ (.int (lt 0 k)) := by
  have ok : mOkP md_X9_letterAt := ok_at 143 (by decide) rfl
  refine mC_of (md := md_X9_letterAt) rfl (lt_at (by decide)) rfl ?_
  refine mGo_run (n := 400) ok rfl ?_
  refine mGo_sw ok rfl ⟨fun _ => ?_, fun z => absurd rfl z⟩
  refine mGo_run (n := 400) ok rfl ?_
  refine mGo_ifI ok rfl (nI_eq (a := k) (b := 0) (by omega) (by omega)) (fun h0 => ?_) (fun h0 => ?_)
  · subst h0
    refine mGo_run (n := 400) ok rfl ?_
    exact mGo_ret ok rfl trivial (⟨rfl, rfl, rfl⟩)
  · skip
    refine mGo_run (n := 400) ok rfl ?_
    refine mGo_ifI ok rfl (nI_eq (a := k) (b := 1) (by omega) (by omega)) (fun h1 => ?_) (fun h1 => ?_)
    · subst h1
      refine mGo_run (n := 400) ok rfl ?_
      exact mGo_ret ok rfl trivial (⟨rfl, rfl, rfl⟩)
    · skip
      refine mGo_run (n := 400) ok rfl ?_
      refine mGo_ifI ok rfl (nI_eq (a := k) (b := 2) (by omega) (by omega)) (fun h2 => ?_) (fun h2 => ?_)
      · subst h2
        refine mGo_run (n := 400) ok rfl ?_
        exact mGo_ret ok rfl trivial (⟨rfl, rfl, rfl⟩)
      · skip
        refine mGo_run (n := 400) ok rfl ?_
        refine mGo_ifI ok rfl (nI_eq (a := k) (b := 3) (by omega) (by omega)) (fun h3 => ?_) (fun h3 => ?_)
        · subst h3
          refine mGo_run (n := 400) ok rfl ?_
          exact mGo_ret ok rfl trivial (⟨rfl, rfl, rfl⟩)
        · skip
          refine mGo_run (n := 400) ok rfl ?_
          refine mGo_ifI ok rfl (nI_eq (a := k) (b := 4) (by omega) (by omega)) (fun h4 => ?_) (fun h4 => ?_)
          · subst h4
            refine mGo_run (n := 400) ok rfl ?_
            exact mGo_ret ok rfl trivial (⟨rfl, rfl, rfl⟩)
          · skip
            refine mGo_run (n := 400) ok rfl ?_
            refine mGo_ifI ok rfl (nI_eq (a := k) (b := 5) (by omega) (by omega)) (fun h5 => ?_) (fun h5 => ?_)
            · subst h5
              refine mGo_run (n := 400) ok rfl ?_
              exact mGo_ret ok rfl trivial (⟨rfl, rfl, rfl⟩)
            · skip
              refine mGo_run (n := 400) ok rfl ?_
              exact mGo_ret ok rfl trivial (⟨by rw [lt_out (w := 0) (show 6 ≤ k by omega) (by omega)], rfl, rfl⟩)
theorem m_letter1 {k : Nat} (hk : k ≤ 40) : mNP g l d 143 [.int (nI 1), .int (nI k)] lk ex σ (.int (lt 1 k)) := by
  have ok : mOkP md_X9_letterAt := ok_at 143 (by decide) rfl
  refine mC_of (md := md_X9_letterAt) rfl (lt_at (by decide)) rfl ?_
  refine mGo_run (n := 400) ok rfl ?_
  refine mGo_sw ok rfl ⟨fun z => absurd z (by decide), fun _ => ⟨fun _ => ?_, fun z => absurd rfl z⟩⟩
  refine mGo_run (n := 400) ok rfl ?_
  refine mGo_ifI ok rfl (nI_eq (a := k) (b := 0) (by omega) (by omega)) (fun h0 => ?_) (fun h0 => ?_)
  · subst h0
    refine mGo_run (n := 400) ok rfl ?_
    exact mGo_ret ok rfl trivial (⟨rfl, rfl, rfl⟩)
  · skip
    refine mGo_run (n := 400) ok rfl ?_
    refine mGo_ifI ok rfl (nI_eq (a := k) (b := 1) (by omega) (by omega)) (fun h1 => ?_) (fun h1 => ?_)
    · subst h1
      refine mGo_run (n := 400) ok rfl ?_
      exact mGo_ret ok rfl trivial (⟨rfl, rfl, rfl⟩)
    · skip
      refine mGo_run (n := 400) ok rfl ?_
      refine mGo_ifI ok rfl (nI_eq (a := k) (b := 2) (by omega) (by omega)) (fun h2 => ?_) (fun h2 => ?_)
      · subst h2
        refine mGo_run (n := 400) ok rfl ?_
        exact mGo_ret ok rfl trivial (⟨rfl, rfl, rfl⟩)
      · skip
        refine mGo_run (n := 400) ok rfl ?_
        refine mGo_ifI ok rfl (nI_eq (a := k) (b := 3) (by omega) (by omega)) (fun h3 => ?_) (fun h3 => ?_)
        · subst h3
          refine mGo_run (n := 400) ok rfl ?_
          exact mGo_ret ok rfl trivial (⟨rfl, rfl, rfl⟩)
        · skip
          refine mGo_run (n := 400) ok rfl ?_
          refine mGo_ifI ok rfl (nI_eq (a := k) (b := 4) (by omega) (by omega)) (fun h4 => ?_) (fun h4 => ?_)
          · subst h4
            refine mGo_run (n := 400) ok rfl ?_
            exact mGo_ret ok rfl trivial (⟨rfl, rfl, rfl⟩)
          · skip
            refine mGo_run (n := 400) ok rfl ?_
            refine mGo_ifI ok rfl (nI_eq (a := k) (b := 5) (by omega) (by omega)) (fun h5 => ?_) (fun h5 => ?_)
            · subst h5
              refine mGo_run (n := 400) ok rfl ?_
              exact mGo_ret ok rfl trivial (⟨rfl, rfl, rfl⟩)
            · skip
              refine mGo_run (n := 400) ok rfl ?_
              exact mGo_ret ok rfl trivial (⟨by rw [lt_out (w := 1) (show 6 ≤ k by omega) (by omega)], rfl, rfl⟩)
theorem m_letter2 {k : Nat} (hk : k ≤ 40) : mNP g l d 143 [.int (nI 2), .int (nI k)] lk ex σ (.int (lt 2 k)) := by
  have ok : mOkP md_X9_letterAt := ok_at 143 (by decide) rfl
  refine mC_of (md := md_X9_letterAt) rfl (lt_at (by decide)) rfl ?_
  refine mGo_run (n := 400) ok rfl ?_
  refine mGo_sw ok rfl ⟨fun z => absurd z (by decide), fun _ => ⟨fun z => absurd z (by decide), fun _ => ⟨fun _ => ?_, fun z => absurd rfl z⟩⟩⟩
  refine mGo_run (n := 400) ok rfl ?_
  refine mGo_ifI ok rfl (nI_eq (a := k) (b := 0) (by omega) (by omega)) (fun h0 => ?_) (fun h0 => ?_)
  · subst h0
    refine mGo_run (n := 400) ok rfl ?_
    exact mGo_ret ok rfl trivial (⟨rfl, rfl, rfl⟩)
  · skip
    refine mGo_run (n := 400) ok rfl ?_
    refine mGo_ifI ok rfl (nI_eq (a := k) (b := 1) (by omega) (by omega)) (fun h1 => ?_) (fun h1 => ?_)
    · subst h1
      refine mGo_run (n := 400) ok rfl ?_
      exact mGo_ret ok rfl trivial (⟨rfl, rfl, rfl⟩)
    · skip
      refine mGo_run (n := 400) ok rfl ?_
      refine mGo_ifI ok rfl (nI_eq (a := k) (b := 2) (by omega) (by omega)) (fun h2 => ?_) (fun h2 => ?_)
      · subst h2
        refine mGo_run (n := 400) ok rfl ?_
        exact mGo_ret ok rfl trivial (⟨rfl, rfl, rfl⟩)
      · skip
        refine mGo_run (n := 400) ok rfl ?_
        refine mGo_ifI ok rfl (nI_eq (a := k) (b := 3) (by omega) (by omega)) (fun h3 => ?_) (fun h3 => ?_)
        · subst h3
          refine mGo_run (n := 400) ok rfl ?_
          exact mGo_ret ok rfl trivial (⟨rfl, rfl, rfl⟩)
        · skip
          refine mGo_run (n := 400) ok rfl ?_
          refine mGo_ifI ok rfl (nI_eq (a := k) (b := 4) (by omega) (by omega)) (fun h4 => ?_) (fun h4 => ?_)
          · subst h4
            refine mGo_run (n := 400) ok rfl ?_
            exact mGo_ret ok rfl trivial (⟨rfl, rfl, rfl⟩)
          · skip
            refine mGo_run (n := 400) ok rfl ?_
            refine mGo_ifI ok rfl (nI_eq (a := k) (b := 5) (by omega) (by omega)) (fun h5 => ?_) (fun h5 => ?_)
            · subst h5
              refine mGo_run (n := 400) ok rfl ?_
              exact mGo_ret ok rfl trivial (⟨rfl, rfl, rfl⟩)
            · skip
              refine mGo_run (n := 400) ok rfl ?_
              refine mGo_ifI ok rfl (nI_eq (a := k) (b := 6) (by omega) (by omega)) (fun h6 => ?_) (fun h6 => ?_)
              · subst h6
                refine mGo_run (n := 400) ok rfl ?_
                exact mGo_ret ok rfl trivial (⟨rfl, rfl, rfl⟩)
              · skip
                refine mGo_run (n := 400) ok rfl ?_
                exact mGo_ret ok rfl trivial (⟨by rw [lt_out (w := 2) (show 7 ≤ k by omega) (by omega)], rfl, rfl⟩)
theorem m_letter3 {k : Nat} (hk : k ≤ 40) : mNP g l d 143 [.int (nI 3), .int (nI k)] lk ex σ (.int (lt 3 k)) := by
  have ok : mOkP md_X9_letterAt := ok_at 143 (by decide) rfl
  refine mC_of (md := md_X9_letterAt) rfl (lt_at (by decide)) rfl ?_
  refine mGo_run (n := 400) ok rfl ?_
  refine mGo_sw ok rfl ⟨fun z => absurd z (by decide), fun _ => ⟨fun z => absurd z (by decide), fun _ => ⟨fun z => absurd z (by decide), fun _ => ⟨fun _ => ?_, fun z => absurd rfl z⟩⟩⟩⟩
  refine mGo_run (n := 400) ok rfl ?_
  refine mGo_ifI ok rfl (nI_eq (a := k) (b := 0) (by omega) (by omega)) (fun h0 => ?_) (fun h0 => ?_)
  · subst h0
    refine mGo_run (n := 400) ok rfl ?_
    exact mGo_ret ok rfl trivial (⟨rfl, rfl, rfl⟩)
  · skip
    refine mGo_run (n := 400) ok rfl ?_
    refine mGo_ifI ok rfl (nI_eq (a := k) (b := 1) (by omega) (by omega)) (fun h1 => ?_) (fun h1 => ?_)
    · subst h1
      refine mGo_run (n := 400) ok rfl ?_
      exact mGo_ret ok rfl trivial (⟨rfl, rfl, rfl⟩)
    · skip
      refine mGo_run (n := 400) ok rfl ?_
      refine mGo_ifI ok rfl (nI_eq (a := k) (b := 2) (by omega) (by omega)) (fun h2 => ?_) (fun h2 => ?_)
      · subst h2
        refine mGo_run (n := 400) ok rfl ?_
        exact mGo_ret ok rfl trivial (⟨rfl, rfl, rfl⟩)
      · skip
        refine mGo_run (n := 400) ok rfl ?_
        refine mGo_ifI ok rfl (nI_eq (a := k) (b := 3) (by omega) (by omega)) (fun h3 => ?_) (fun h3 => ?_)
        · subst h3
          refine mGo_run (n := 400) ok rfl ?_
          exact mGo_ret ok rfl trivial (⟨rfl, rfl, rfl⟩)
        · skip
          refine mGo_run (n := 400) ok rfl ?_
          refine mGo_ifI ok rfl (nI_eq (a := k) (b := 4) (by omega) (by omega)) (fun h4 => ?_) (fun h4 => ?_)
          · subst h4
            refine mGo_run (n := 400) ok rfl ?_
            exact mGo_ret ok rfl trivial (⟨rfl, rfl, rfl⟩)
          · skip
            refine mGo_run (n := 400) ok rfl ?_
            refine mGo_ifI ok rfl (nI_eq (a := k) (b := 5) (by omega) (by omega)) (fun h5 => ?_) (fun h5 => ?_)
            · subst h5
              refine mGo_run (n := 400) ok rfl ?_
              exact mGo_ret ok rfl trivial (⟨rfl, rfl, rfl⟩)
            · skip
              refine mGo_run (n := 400) ok rfl ?_
              refine mGo_ifI ok rfl (nI_eq (a := k) (b := 6) (by omega) (by omega)) (fun h6 => ?_) (fun h6 => ?_)
              · subst h6
                refine mGo_run (n := 400) ok rfl ?_
                exact mGo_ret ok rfl trivial (⟨rfl, rfl, rfl⟩)
              · skip
                refine mGo_run (n := 400) ok rfl ?_
                refine mGo_ifI ok rfl (nI_eq (a := k) (b := 7) (by omega) (by omega)) (fun h7 => ?_) (fun h7 => ?_)
                · subst h7
                  refine mGo_run (n := 400) ok rfl ?_
                  exact mGo_ret ok rfl trivial (⟨rfl, rfl, rfl⟩)
                · skip
                  refine mGo_run (n := 400) ok rfl ?_
                  refine mGo_ifI ok rfl (nI_eq (a := k) (b := 8) (by omega) (by omega)) (fun h8 => ?_) (fun h8 => ?_)
                  · subst h8
                    refine mGo_run (n := 400) ok rfl ?_
                    exact mGo_ret ok rfl trivial (⟨rfl, rfl, rfl⟩)
                  · skip
                    refine mGo_run (n := 400) ok rfl ?_
                    refine mGo_ifI ok rfl (nI_eq (a := k) (b := 9) (by omega) (by omega)) (fun h9 => ?_) (fun h9 => ?_)
                    · subst h9
                      refine mGo_run (n := 400) ok rfl ?_
                      exact mGo_ret ok rfl trivial (⟨rfl, rfl, rfl⟩)
                    · skip
                      refine mGo_run (n := 400) ok rfl ?_
                      exact mGo_ret ok rfl trivial (⟨by rw [lt_out (w := 3) (show 10 ≤ k by omega) (by omega)], rfl, rfl⟩)
theorem m_letter4 {k : Nat} (hk : k ≤ 40) : mNP g l d 143 [.int (nI 4), .int (nI k)] lk ex σ (.int (lt 4 k)) := by
  have ok : mOkP md_X9_letterAt := ok_at 143 (by decide) rfl
  refine mC_of (md := md_X9_letterAt) rfl (lt_at (by decide)) rfl ?_
  refine mGo_run (n := 400) ok rfl ?_
  refine mGo_sw ok rfl ⟨fun z => absurd z (by decide), fun _ => ⟨fun z => absurd z (by decide), fun _ => ⟨fun z => absurd z (by decide), fun _ => ⟨fun z => absurd z (by decide), fun _ => ?_⟩⟩⟩⟩
  refine mGo_run (n := 400) ok rfl ?_
  refine mGo_ifI ok rfl (nI_eq (a := k) (b := 0) (by omega) (by omega)) (fun h0 => ?_) (fun h0 => ?_)
  · subst h0
    refine mGo_run (n := 400) ok rfl ?_
    exact mGo_ret ok rfl trivial (⟨rfl, rfl, rfl⟩)
  · skip
    refine mGo_run (n := 400) ok rfl ?_
    refine mGo_ifI ok rfl (nI_eq (a := k) (b := 1) (by omega) (by omega)) (fun h1 => ?_) (fun h1 => ?_)
    · subst h1
      refine mGo_run (n := 400) ok rfl ?_
      exact mGo_ret ok rfl trivial (⟨rfl, rfl, rfl⟩)
    · skip
      refine mGo_run (n := 400) ok rfl ?_
      refine mGo_ifI ok rfl (nI_eq (a := k) (b := 2) (by omega) (by omega)) (fun h2 => ?_) (fun h2 => ?_)
      · subst h2
        refine mGo_run (n := 400) ok rfl ?_
        exact mGo_ret ok rfl trivial (⟨rfl, rfl, rfl⟩)
      · skip
        refine mGo_run (n := 400) ok rfl ?_
        refine mGo_ifI ok rfl (nI_eq (a := k) (b := 3) (by omega) (by omega)) (fun h3 => ?_) (fun h3 => ?_)
        · subst h3
          refine mGo_run (n := 400) ok rfl ?_
          exact mGo_ret ok rfl trivial (⟨rfl, rfl, rfl⟩)
        · skip
          refine mGo_run (n := 400) ok rfl ?_
          refine mGo_ifI ok rfl (nI_eq (a := k) (b := 4) (by omega) (by omega)) (fun h4 => ?_) (fun h4 => ?_)
          · subst h4
            refine mGo_run (n := 400) ok rfl ?_
            exact mGo_ret ok rfl trivial (⟨rfl, rfl, rfl⟩)
          · skip
            refine mGo_run (n := 400) ok rfl ?_
            refine mGo_ifI ok rfl (nI_eq (a := k) (b := 5) (by omega) (by omega)) (fun h5 => ?_) (fun h5 => ?_)
            · subst h5
              refine mGo_run (n := 400) ok rfl ?_
              exact mGo_ret ok rfl trivial (⟨rfl, rfl, rfl⟩)
            · skip
              refine mGo_run (n := 400) ok rfl ?_
              refine mGo_ifI ok rfl (nI_eq (a := k) (b := 6) (by omega) (by omega)) (fun h6 => ?_) (fun h6 => ?_)
              · subst h6
                refine mGo_run (n := 400) ok rfl ?_
                exact mGo_ret ok rfl trivial (⟨rfl, rfl, rfl⟩)
              · skip
                refine mGo_run (n := 400) ok rfl ?_
                refine mGo_ifI ok rfl (nI_eq (a := k) (b := 7) (by omega) (by omega)) (fun h7 => ?_) (fun h7 => ?_)
                · subst h7
                  refine mGo_run (n := 400) ok rfl ?_
                  exact mGo_ret ok rfl trivial (⟨rfl, rfl, rfl⟩)
                · skip
                  refine mGo_run (n := 400) ok rfl ?_
                  refine mGo_ifI ok rfl (nI_eq (a := k) (b := 8) (by omega) (by omega)) (fun h8 => ?_) (fun h8 => ?_)
                  · subst h8
                    refine mGo_run (n := 400) ok rfl ?_
                    exact mGo_ret ok rfl trivial (⟨rfl, rfl, rfl⟩)
                  · skip
                    refine mGo_run (n := 400) ok rfl ?_
                    exact mGo_ret ok rfl trivial (⟨by rw [lt_out (w := 4) (show 9 ≤ k by omega) (by omega)], rfl, rfl⟩)
theorem m_letterAt {w k : Nat} (hw : w < 5) (hk : k ≤ 40) : mNP g l d 143 [.int (nI w), .int (nI k)] lk ex σ (.int (lt w k)) := by
  match w, hw with
  | 0, _ => exact m_letter0 hk
  | 1, _ => exact m_letter1 hk
  | 2, _ => exact m_letter2 hk
  | 3, _ => exact m_letter3 hk
  | 4, _ => exact m_letter4 hk
  | n + 5, h => omega
theorem m_readWord (hT : T.1 ≤ 40) (hI : ∀ i, i < T.1 → σ.1 52 i = T.2 i) : mNP g l (d + 1) 144 [.ref 48, .int (nI T.1)] lk ex σ (.int (if qWd T = 0 then -5 else nI (qWd T - 1))) := by
  have ok : mOkP md_X9_readWord := ok_at 144 (by decide) rfl
  refine mC_of (md := md_X9_readWord) rfl (lt_at (by decide)) rfl ?_
  refine mGo_runS 2 (n := 400) ok rfl ?_
  have loop : ∀ n w, w + n = 5 → (∀ v, v < w → spB T v = false) → ∀ L3 : Option Value, mGo g l (d + 1) md_X9_readWord (SH lk ex).length (mTot (SH lk ex)) (2, [some (.ref 48), some (.int (nI T.1)), some (.int (nI w)), L3], [], SH lk ex, σ) (fun r sp σ1 => r = some (.int (if qWd T = 0 then -5 else nI (qWd T - 1))) ∧ sp = SH lk ex ∧ σ1 = σ) := by
    intro n
    induction n with
    | zero =>
      intro w hw hno L3
      have e : w = 5 := by omega
      subst e
      refine mGo_run (n := 400) ok rfl ?_
      refine mGo_if ok rfl (fun h => ?_) (fun h => ?_)
      · refine mGo_run (n := 400) ok rfl ?_
        rw [qWd_no hno]
        exact mGo_ret ok rfl trivial (⟨rfl, rfl, rfl⟩)
      · exact absurd (by decide) h
    | succ n ih =>
      intro w hw hno L3
      have hw5 : w < 5 := by omega
      have fin : ∀ k, k ≤ T.1 → (∀ j, j < k → T.2 j = lt w j ∧ T.2 j ≠ 0) → (k = T.1 ∨ T.2 k ≠ lt w k ∨ T.2 k = 0) → mGo g l (d + 1) md_X9_readWord (SH lk ex).length (mTot (SH lk ex)) (43, [some (.ref 48), some (.int (nI T.1)), some (.int (nI w)), some (.int (nI k))], [], SH lk ex, σ) (fun r sp σ1 => r = some (.int (if qWd T = 0 then -5 else nI (qWd T - 1))) ∧ sp = SH lk ex ∧ σ1 = σ) := by
        intro k hk hin hout
        have next : spB T w = false → mGo g l (d + 1) md_X9_readWord (SH lk ex).length (mTot (SH lk ex)) (58, [some (.ref 48), some (.int (nI T.1)), some (.int (nI w)), some (.int (nI k))], [], SH lk ex, σ) (fun r sp σ1 => r = some (.int (if qWd T = 0 then -5 else nI (qWd T - 1))) ∧ sp = SH lk ex ∧ σ1 = σ) := by
          intro hf
          refine mGo_runS 2 (n := 400) ok rfl ?_
          rw [nI_1]
          refine ih (w + 1) (by omega) (fun v hv => ?_) _
          rcases Nat.lt_or_ge v w with z | z
          · exact hno v z
          · rw [show v = w by omega]; exact hf
        have hno2 : k ≠ T.1 → spB T w = false := by
          intro hk2
          cases hh : spB T w with
          | false => rfl
          | true =>
            obtain ⟨s1, s2⟩ := spB_t.mp hh
            rcases hout with z | z | z
            · exact absurd z hk2
            · exact absurd (s2 k (by omega)) z
            · exact absurd ((s2 k (by omega)).symm.trans z) (lt_in w hw5 k (by omega))
        refine mGo_run (n := 400) ok rfl ?_
        refine mGo_ifI ok rfl (nI_eq (a := k) (b := T.1) (by omega) (by omega)) (fun h1 => ?_) (fun h1 => ?_)
        · refine mGo_run (n := 400) ok rfl ?_
          refine mGo_callP ok rfl (by omega) (m_letterAt (d := d) hw5 (k := k) (by omega)) ?_
          refine mGo_if ok rfl (fun h2 => ?_) (fun h2 => ?_)
          · have e : spB T w = true := by
              refine spB_t.mpr ⟨?_, fun j hj => (hin j (by omega)).1⟩
              rcases Nat.lt_trichotomy T.1 (mSl.getD w 0) with z | z | z
              · exact absurd h2 (lt_in w hw5 k (by omega))
              · exact z
              · exact absurd ((hin (mSl.getD w 0) (by omega)).1.trans (lt_out (Nat.le_refl _) hw5)) (hin (mSl.getD w 0) (by omega)).2
            refine mGo_run (n := 400) ok rfl ?_
            rw [qWd_of hw5 hno e]
            exact mGo_ret ok rfl trivial (⟨rfl, rfl, rfl⟩)
          · refine next ?_
            cases hh : spB T w with
            | false => rfl
            | true => exact absurd (lt_out (by have := (spB_t.mp hh).1; omega) hw5) h2
        · exact next (hno2 h1)
      have inner : ∀ q k, k + q = T.1 → (∀ j, j < k → T.2 j = lt w j ∧ T.2 j ≠ 0) → mGo g l (d + 1) md_X9_readWord (SH lk ex).length (mTot (SH lk ex)) (9, [some (.ref 48), some (.int (nI T.1)), some (.int (nI w)), some (.int (nI k))], [], SH lk ex, σ) (fun r sp σ1 => r = some (.int (if qWd T = 0 then -5 else nI (qWd T - 1))) ∧ sp = SH lk ex ∧ σ1 = σ) := by
        intro q
        induction q with
        | zero =>
          intro k hk hin
          refine mGo_run (n := 400) ok rfl ?_
          refine mGo_ifI ok rfl (nI_leI (a := T.1) (b := k) (by omega) (by omega)) (fun h1 => ?_) (fun h1 => ?_)
          · exact fin k (by omega) hin (Or.inl (by omega))
          · omega
        | succ q ihq =>
          intro k hk hin
          refine mGo_run (n := 400) ok rfl ?_
          refine mGo_ifI ok rfl (nI_leI (a := T.1) (b := k) (by omega) (by omega)) (fun h1 => ?_) (fun h1 => ?_)
          · omega
          · refine mGo_run (n := 400) ok rfl ?_
            refine mGo_callP ok rfl (by omega) (m_letterAt (d := d) hw5 (k := k) (by omega)) ?_
            refine mGo_run (n := 400) ok rfl ?_
            refine mGo_side ok rfl (nI_in (by omega) (by omega)) ?_
            rw [nI_clamp (n := k) (by omega), hI k (by omega)]
            refine mGo_run (n := 400) ok rfl ?_
            refine mGo_if ok rfl (fun h2 => ?_) (fun h2 => ?_)
            · refine mGo_run (n := 400) ok rfl ?_
              refine mGo_side ok rfl (nI_in (by omega) (by omega)) ?_
              rw [nI_clamp (n := k) (by omega), hI k (by omega)]
              refine mGo_if ok rfl (fun h3 => ?_) (fun h3 => ?_)
              · exact fin k (by omega) hin (Or.inr (Or.inr h3))
              · refine mGo_runS 9 (n := 400) ok rfl ?_
                rw [nI_1]
                refine ihq (k + 1) (by omega) (fun j hj => ?_)
                rcases Nat.lt_or_ge j k with z | z
                · exact hin j z
                · rw [show j = k by omega]; exact ⟨h2.symm, h3⟩
            · exact fin k (by omega) hin (Or.inr (Or.inl (fun z => h2 z.symm)))
      refine mGo_run (n := 400) ok rfl ?_
      refine mGo_ifI ok rfl (nI_leI (a := 5) (b := w) (by omega) (by omega)) (fun h1 => ?_) (fun h1 => ?_)
      · omega
      · refine mGo_runS 9 (n := 400) ok rfl ?_
        exact inner T.1 0 (by omega) (fun j hj => by omega)
  exact loop 5 0 (by omega) (fun v hv => by omega) none
end T
