/-! the reference: truth tables, negate, combine -/
/-- the table of an atom, k rows of it -/
def atP (i : Nat) : Nat → Int32
  | 0 => 0
  | k + 1 => atP i k ||| (((nI k >>> (nI i &&& 31)) &&& 1) <<< (nI k &&& 31))
theorem atP_16 : ∀ i, i < 4 → atP i 16 = atT i := by decide +kernel
section T
variable {g : mG} {l : Launch} {d : Nat} {lk : Nat} {ex : mSh} {σ : mHp} {F : aF}
theorem m_tableOf (hf : fOk F) (hm : mF σ F) {j : Nat} (hj : j < aN F) : mNR g l d 140 [.ref 48, .int (nI j)] lk ex σ (.int (fTb F j)) (fun σ1 => fr 54 55 σ σ1) := by
  have ok : mOkP md_X9_tableOf := ok_at 140 (by decide) rfl
  refine mC_of (md := md_X9_tableOf) rfl (lt_at (by decide)) rfl ?_
  have hn := hf.2.1
  refine mGo_runS 2 (n := 400) ok rfl ?_
  have loop : ∀ m i : Nat, i + m = j + 1 → ∀ τ : mHp, fr 54 55 σ τ → (∀ x, x < i → τ.1 54 x = fTb F x) → mGo g l d md_X9_tableOf (SH lk ex).length (mTot (SH lk ex)) (2, [some (.ref 48), some (.int (nI j)), some (.int (nI i)), none, none, none], [], SH lk ex, τ) (fun r sp σ1 => r = some (.int (fTb F j)) ∧ sp = SH lk ex ∧ fr 54 55 σ σ1) := by
    intro m
    induction m with
    | zero =>
      intro i hi τ ht hv
      refine mGo_run (n := 400) ok rfl ?_
      refine mGo_if ok rfl (fun h1 => ?_) (fun h1 => ?_)
      · refine mGo_run (n := 400) ok rfl ?_
        refine mGo_side ok rfl (nI_in (by omega) (by omega)) ?_
        refine mGo_run (n := 400) ok rfl ?_
        exact mGo_ret ok rfl trivial (⟨by rw [nI_clamp (by omega), hv j (by omega)], rfl, ht⟩)
      · exact absurd ((nI_ltI (a := j) (b := i) (by omega) (by omega)).mpr (by omega)) h1
    | succ m ih =>
      intro i hi τ ht hv
      have hin : i < aN F := by omega
      have hmt := mF_fr ht (Or.inl (by omega)) hm
      obtain ⟨w1, w2, w3, w4, w5, w6⟩ := hf.2.2 i hin
      obtain ⟨c1, c2, c3⟩ := hmt.2 i hin
      have ci : (nI i).toNatClampNeg = i := nI_clamp (by omega)
      have hv0 : vp_in (nI i) 40 := nI_in (by omega) (by omega)
      have hA : aA F i < 40 := by
        by_cases z : aK F i = 0
        · rw [w6 z]; omega
        · have := w3 z; omega
      have hB : aB F i < 40 := by
        by_cases z : aK F i < 2
        · rw [w5 z]; omega
        · have := w4 (by omega); omega
      have cA : (nI (aA F i)).toNatClampNeg = aA F i := nI_clamp (by omega)
      have cB : (nI (aB F i)).toNatClampNeg = aB F i := nI_clamp (by omega)
      have hstep : tbR F (τ.1 54) i = fTb F i := rc_next (tbL hf) hin hv
      have done : ∀ (τ1 : mHp) (L3 L4 L5 : Option Value), fr 54 55 σ τ1 → (∀ x, x < i → τ1.1 54 x = τ.1 54 x) → τ1.1 54 i = fTb F i → mGo g l d md_X9_tableOf (SH lk ex).length (mTot (SH lk ex)) (168, [some (.ref 48), some (.int (nI j)), some (.int (nI i)), L3, L4, L5], [], SH lk ex, τ1) (fun r sp σ1 => r = some (.int (fTb F j)) ∧ sp = SH lk ex ∧ fr 54 55 σ σ1) := by
        intro τ1 L3 L4 L5 h1 h2 h3
        refine mGo_runS 2 (n := 400) ok rfl ?_
        rw [nI_1]
        refine mGo_weak (L' := [some (.ref 48), some (.int (nI j)), some (.int (nI (i + 1))), none, none, none]) ⟨rfl, rfl, rfl, trivial⟩ (ih (i + 1) (by omega) τ1 h1 (fun x hx => ?_))
        by_cases e : x = i
        · subst e; exact h3
        · rw [h2 x (by omega)]; exact hv x (by omega)
      have put : ∀ (v : Int32) (L3 L4 L5 : Option Value), v = fTb F i → mGo g l d md_X9_tableOf (SH lk ex).length (mTot (SH lk ex)) (168, [some (.ref 48), some (.int (nI j)), some (.int (nI i)), L3, L4, L5], [], SH lk ex, mWI τ 54 i v) (fun r sp σ1 => r = some (.int (fTb F j)) ∧ sp = SH lk ex ∧ fr 54 55 σ σ1) := by
        intro v L3 L4 L5 hv1
        refine done _ _ _ _ (ht.WI (by omega) (by omega)) (fun x hx => ?_) (by simp [WI_at, hv1])
        rw [WI_at, if_neg (by omega)]
      refine mGo_run (n := 400) ok rfl ?_
      refine mGo_if ok rfl (fun h1 => ?_) (fun h1 => ?_)
      · exact absurd ((nI_ltI (a := j) (b := i) (by omega) (by omega)).mp h1) (by omega)
      · refine mGo_run (n := 400) ok rfl ?_
        refine mGo_side ok rfl (hv0) ?_
        rw [ci, c2]
        refine mGo_side ok rfl (nI_in (by omega) (by omega)) ?_
        rw [cA]
        refine mGo_run (n := 400) ok rfl ?_
        refine mGo_side ok rfl (hv0) ?_
        rw [ci, c3]
        refine mGo_side ok rfl (nI_in (by omega) (by omega)) ?_
        rw [cB]
        refine mGo_run (n := 400) ok rfl ?_
        refine mGo_side ok rfl (hv0) ?_
        rw [ci, c1]
        refine mGo_sw ok rfl ⟨fun h2 => ?_, fun h2 => ⟨fun h3 => ?_, fun h3 => ⟨fun h4 => ?_, fun h4 => ⟨fun h5 => ?_, fun h5 => ?_⟩⟩⟩⟩
        · have k0 : aK F i = 0 := (nI_eq (a := aK F i) (b := 0) (by omega) (by omega)).mp h2
          have hi4 : i < 4 := w1.mp k0
          refine mGo_run (n := 400) ok rfl ?_
          refine mGo_side ok rfl (hv0) ?_
          rw [ci]
          refine mGo_runS 78 (n := 400) ok rfl ?_
          have inner : ∀ m2 k : Nat, k + m2 = 16 → ∀ τ1 : mHp, fr 54 55 σ τ1 → (∀ x, x < i → τ1.1 54 x = τ.1 54 x) → τ1.1 54 i = atP i k → mGo g l d md_X9_tableOf (SH lk ex).length (mTot (SH lk ex)) (78, [some (.ref 48), some (.int (nI j)), some (.int (nI i)), some (.int (τ.1 54 (aA F i))), some (.int (τ.1 54 (aB F i))), some (.int (nI k))], [], SH lk ex, τ1) (fun r sp σ1 => r = some (.int (fTb F j)) ∧ sp = SH lk ex ∧ fr 54 55 σ σ1) := by
            intro m2
            induction m2 with
            | zero =>
              intro k hk τ1 g1 g2 g3
              have : k = 16 := by omega
              subst this
              refine mGo_run (n := 400) ok rfl ?_
              refine mGo_if ok rfl (fun q => ?_) (fun q => ?_)
              · refine mGo_runS 168 (n := 400) ok rfl ?_
                refine done _ _ _ _ g1 g2 ?_
                rw [g3, atP_16 i hi4, ← hstep, tbR, if_pos k0]
              · exact absurd (by decide) q
            | succ m2 ih2 =>
              intro k hk τ1 g1 g2 g3
              refine mGo_run (n := 400) ok rfl ?_
              refine mGo_if ok rfl (fun q => ?_) (fun q => ?_)
              · exact absurd q (nI_ge (a := k) (b := 16) (by omega) (by omega))
              · refine mGo_run (n := 400) ok rfl ?_
                refine mGo_side ok rfl (hv0) ?_
                rw [ci]
                refine mGo_run (n := 400) ok rfl ?_
                refine mGo_side ok rfl (hv0) ?_
                rw [ci, g3]
                refine mGo_runS 78 (n := 400) ok rfl ?_
                rw [nI_1]
                refine ih2 (k + 1) (by omega) _ (g1.WI (by omega) (by omega)) (fun x hx => ?_) ?_
                · rw [WI_at, if_neg (by omega)]; exact g2 x hx
                · simp [WI_at, atP]
          exact inner 16 0 (by omega) _ (ht.WI (by omega) (by omega)) (fun x hx => by rw [WI_at, if_neg (by omega)]) (by simp [WI_at, atP])
        · have k1 : aK F i = 1 := (nI_eq (a := aK F i) (b := 1) (by omega) (by omega)).mp h3
          refine mGo_run (n := 400) ok rfl ?_
          refine mGo_side ok rfl (hv0) ?_
          rw [ci]
          refine mGo_runS 168 (n := 400) ok rfl ?_
          refine put _ _ _ _ ?_
          rw [← hstep, tbR, if_neg (by omega), tbK, if_pos k1]
        · have k1 : aK F i = 2 := (nI_eq (a := aK F i) (b := 2) (by omega) (by omega)).mp h4
          refine mGo_run (n := 400) ok rfl ?_
          refine mGo_side ok rfl (hv0) ?_
          rw [ci]
          refine mGo_runS 168 (n := 400) ok rfl ?_
          refine put _ _ _ _ ?_
          rw [← hstep, tbR, if_neg (by omega), tbK, if_neg (by omega), if_pos k1, if_neg (by omega)]
        · have k1 : aK F i = 3 := (nI_eq (a := aK F i) (b := 3) (by omega) (by omega)).mp h5
          refine mGo_run (n := 400) ok rfl ?_
          refine mGo_side ok rfl (hv0) ?_
          rw [ci]
          refine mGo_runS 168 (n := 400) ok rfl ?_
          refine put _ _ _ _ ?_
          rw [← hstep, tbR, if_neg (by omega), tbK, if_neg (by omega), if_neg (by omega), if_pos k1, if_neg (by omega)]
        · have k1 : aK F i = 4 := by
            have n0 : aK F i ≠ 0 := fun z => h2 (by rw [z]; rfl)
            have n1 : aK F i ≠ 1 := fun z => h3 (by rw [z]; rfl)
            have n2 : aK F i ≠ 2 := fun z => h4 (by rw [z]; rfl)
            have n3 : aK F i ≠ 3 := fun z => h5 (by rw [z]; rfl)
            omega
          refine mGo_run (n := 400) ok rfl ?_
          refine mGo_side ok rfl (hv0) ?_
          rw [ci]
          refine put _ _ _ _ ?_
          rw [← hstep, tbR, if_neg (by omega), tbK, if_neg (by omega), if_neg (by omega), if_neg (by omega), if_neg (by omega)]
  exact loop (j + 1) 0 (by omega) σ fr.refl (fun x hx => by omega)
theorem y_truthTable (hf : fOk F) (hm : mF σ F) (f : Int32) : mNR g l (d + 2) 141 [.ref 48, .int f] lk ex σ (.int (qTab F f)) (fun σ1 => fr 54 55 σ σ1) := by
  have ok : mOkP md_X9_truthTable := ok_at 141 (by decide) rfl
  refine mC_of (md := md_X9_truthTable) rfl (lt_at (by decide)) rfl ?_
  unfold qTab
  refine mGo_run (n := 400) ok rfl ?_
  cases hv : vF F f with
  | none =>
    refine mGo_callP ok rfl (by omega) (m_isFormula0 (d := d) hm.1 hf.1 hf.2.1 (vF_none hf.2.1 hv)) ?_
    refine mGo_run (n := 400) ok rfl ?_
    refine mGo_if ok rfl (fun h => ?_) (fun h => ?_)
    · refine mGo_run (n := 400) ok rfl ?_
      exact mGo_ret ok rfl trivial (⟨rfl, rfl, fr.refl⟩)
    · exact absurd rfl h
  | some j =>
    obtain ⟨hj, rfl⟩ := vF_some hf.2.1 hv
    refine mGo_callP ok rfl (by omega) (m_isFormula1 (d := d) hm.1 hf.1 hf.2.1 hj) ?_
    refine mGo_run (n := 400) ok rfl ?_
    refine mGo_if ok rfl (fun h => ?_) (fun h => ?_)
    · exact absurd h (by decide)
    · refine mGo_run (n := 400) ok rfl ?_
      refine mGo_callR ok rfl (by omega) (m_tableOf (d := d) hf hm hj) (fun σ1 hσ1 => ?_)
      refine mGo_run (n := 400) ok rfl ?_
      exact mGo_ret ok rfl trivial (⟨rfl, rfl, hσ1⟩)
theorem y_isEquivalent (hf : fOk F) (hm : mF σ F) (f h2 : Int32) : mNR g l (d + 2) 142 [.ref 48, .int f, .int h2] lk ex σ (.int (qEqv F f h2)) (fun σ1 => fr 54 55 σ σ1) := by
  have ok : mOkP md_X9_isEquivalent := ok_at 142 (by decide) rfl
  refine mC_of (md := md_X9_isEquivalent) rfl (lt_at (by decide)) rfl ?_
  unfold qEqv
  refine mGo_run (n := 400) ok rfl ?_
  cases hv : vF F f with
  | none =>
    refine mGo_callP ok rfl (by omega) (m_isFormula0 (d := d) hm.1 hf.1 hf.2.1 (vF_none hf.2.1 hv)) ?_
    refine mGo_run (n := 400) ok rfl ?_
    refine mGo_if ok rfl (fun h => ?_) (fun h => ?_)
    · refine mGo_run (n := 400) ok rfl ?_
      exact mGo_ret ok rfl trivial (⟨rfl, rfl, fr.refl⟩)
    · exact absurd rfl h
  | some j =>
    obtain ⟨hj, rfl⟩ := vF_some hf.2.1 hv
    refine mGo_callP ok rfl (by omega) (m_isFormula1 (d := d) hm.1 hf.1 hf.2.1 hj) ?_
    refine mGo_run (n := 400) ok rfl ?_
    refine mGo_if ok rfl (fun h => ?_) (fun h => ?_)
    · exact absurd h (by decide)
    · refine mGo_run (n := 400) ok rfl ?_
      cases hv2 : vF F h2 with
      | none =>
        refine mGo_callP ok rfl (by omega) (m_isFormula0 (d := d) hm.1 hf.1 hf.2.1 (vF_none hf.2.1 hv2)) ?_
        refine mGo_run (n := 400) ok rfl ?_
        refine mGo_if ok rfl (fun h1 => ?_) (fun h1 => ?_)
        · refine mGo_run (n := 400) ok rfl ?_
          exact mGo_ret ok rfl trivial (⟨rfl, rfl, fr.refl⟩)
        · exact absurd rfl h1
      | some i =>
        obtain ⟨hi, rfl⟩ := vF_some hf.2.1 hv2
        refine mGo_callP ok rfl (by omega) (m_isFormula1 (d := d) hm.1 hf.1 hf.2.1 hi) ?_
        refine mGo_run (n := 400) ok rfl ?_
        refine mGo_if ok rfl (fun h1 => ?_) (fun h1 => ?_)
        · exact absurd h1 (by decide)
        · refine mGo_run (n := 400) ok rfl ?_
          refine mGo_callR ok rfl (by omega) (m_tableOf (d := d) hf hm hj) (fun σ1 hσ1 => ?_)
          refine mGo_run (n := 400) ok rfl ?_
          refine mGo_callR ok rfl (by omega) (m_tableOf (d := d) hf (mF_fr hσ1 (Or.inl (by omega)) hm) hi) (fun σ2 hσ2 => ?_)
          refine mGo_run (n := 400) ok rfl ?_
          refine mGo_if ok rfl (fun h3 => ?_) (fun h3 => ?_)
          · refine mGo_run (n := 400) ok rfl ?_
            exact mGo_ret ok rfl trivial (⟨by simp only [if_pos h3], rfl, hσ1.trans hσ2⟩)
          · refine mGo_run (n := 400) ok rfl ?_
            exact mGo_ret ok rfl trivial (⟨by simp only [if_neg h3], rfl, hσ1.trans hσ2⟩)
/-- a formula is made, and settled -/
theorem mk_settle {σ1 σ2 : mHp} (hf : fOk F) (hm : mF σ F) {k a b : Nat} (h1 : fr 48 52 (mWI σ 48 4 0) σ1 ∧ fm [0, 4] (mWI σ 48 4 0) σ1 ∧ mF σ1 (aMm F false k a b).2.1 ∧ σ1.1 48 4 = bI (aMm F false k a b).2.2) (h2 : σ2 = if (aMm F false k a b).2.2 then mWI σ1 48 0 (nI (aN F)) else σ1) : (if (aMm F false k a b).2.2 then (-3 : Int32) else nI (aMm F false k a b).1) = oR (aMk F k a b).1 ∧ (fr 48 52 σ σ2 ∧ fm [0, 4] σ σ2 ∧ mF σ2 (aMk F k a b).2) := by
  obtain ⟨g1, g2, g3, g4⟩ := h1
  have g1 : fr 48 52 σ σ1 := ((fr.refl (σ := σ)).WI (by decide) (by decide)).trans g1
  have g2 : fm [0, 4] σ σ1 := ((fm.refl (σ := σ)).WI (fun _ => by decide)).trans g2
  have e := aMm_of hf k a b
  cases hk : (aMk F k a b).1 with
  | some j =>
    rw [hk] at e
    rw [e] at h2 g3 ⊢
    simp at h2
    subst h2
    exact ⟨rfl, g1, g2, g3⟩
  | none =>
    rw [hk] at e
    rw [e] at h2 g3 ⊢
    simp at h2
    subst h2
    rw [aMk_none hk]
    exact ⟨rfl, g1.WI (by decide) (by decide), g2.WI (fun _ => by decide), ⟨by simp [WI_at], fun j hj => by simpa [WI_at] using g3.2 j hj⟩⟩
theorem mF_WI {k : Nat} {v : Int32} (hk : k ≠ 0) (hm : mF σ F) : mF (mWI σ 48 k v) F := ⟨by rw [WI_at, if_neg (fun z => hk z.2.symm)]; exact hm.1, fun j hj => by simpa [WI_at] using hm.2 j hj⟩
theorem y_negate (hf : fOk F) (hm : mF σ F) (f : Int32) : mNR g l (d + 2) 134 [.ref 48, .int f] lk ex σ (.int (qNeg F f).1) (fun σ1 => fr 48 52 σ σ1 ∧ fm [0, 4] σ σ1 ∧ mF σ1 (qNeg F f).2) := by
  have ok : mOkP md_X9_negate := ok_at 134 (by decide) rfl
  refine mC_of (md := md_X9_negate) rfl (lt_at (by decide)) rfl ?_
  unfold qNeg
  refine mGo_run (n := 400) ok rfl ?_
  cases hv : vF F f with
  | none =>
    refine mGo_callP ok rfl (by omega) (m_isFormula0 (d := d) hm.1 hf.1 hf.2.1 (vF_none hf.2.1 hv)) ?_
    refine mGo_run (n := 400) ok rfl ?_
    refine mGo_if ok rfl (fun h => ?_) (fun h => ?_)
    · refine mGo_run (n := 400) ok rfl ?_
      exact mGo_ret ok rfl trivial (⟨rfl, rfl, fr.refl, fm.refl, hm⟩)
    · exact absurd rfl h
  | some j =>
    obtain ⟨hj, rfl⟩ := vF_some hf.2.1 hv
    refine mGo_callP ok rfl (by omega) (m_isFormula1 (d := d) hm.1 hf.1 hf.2.1 hj) ?_
    refine mGo_run (n := 400) ok rfl ?_
    refine mGo_if ok rfl (fun h => ?_) (fun h => ?_)
    · exact absurd h (by decide)
    · refine mGo_run (n := 400) ok rfl ?_
      refine mGo_side ok rfl (Or.inl rfl) ?_
      refine mGo_run (n := 400) ok rfl ?_
      refine mGo_callR ok rfl (by omega) (m_make (d := d) (fl := false) (k := 1) (b := 0) hf (mF_WI (by decide) hm) (by simp [WI_at, bI]) (by omega) hj (by have := hf.1; omega)) (fun σ1 hσ1 => ?_)
      refine mGo_run (n := 400) ok rfl ?_
      rw [hm.1]
      refine mGo_callR ok rfl (by omega) (m_settled (d := d) hσ1.2.2.2 _ _) (fun σ2 hσ2 => ?_)
      refine mGo_run (n := 400) ok rfl ?_
      have hq := mk_settle hf hm hσ1 hσ2
      exact mGo_ret ok rfl trivial (⟨by rw [hq.1], rfl, hq.2⟩)
theorem y_combine (hf : fOk F) (hm : mF σ F) (k f h2 : Int32) : mNR g l (d + 2) 135 [.ref 48, .int k, .int f, .int h2] lk ex σ (.int (qCom F k f h2).1) (fun σ1 => fr 48 52 σ σ1 ∧ fm [0, 4] σ σ1 ∧ mF σ1 (qCom F k f h2).2) := by
  have ok : mOkP md_X9_combine := ok_at 135 (by decide) rfl
  refine mC_of (md := md_X9_combine) rfl (lt_at (by decide)) rfl ?_
  unfold qCom
  refine mGo_run (n := 400) ok rfl ?_
  refine mGo_callP ok rfl (by omega) (m_isIn (d := d + 1) k 2 4) ?_
  refine mGo_run (n := 400) ok rfl ?_
  refine mGo_if ok rfl (fun h => ?_) (fun h => ?_)
  · have hk : ¬ (2 ≤ k ∧ k ≤ 4) := fun z => by rw [if_pos z] at h; exact absurd h (by decide)
    rw [if_neg hk]
    refine mGo_run (n := 400) ok rfl ?_
    exact mGo_ret ok rfl trivial (⟨rfl, rfl, fr.refl, fm.refl, hm⟩)
  · have hk : 2 ≤ k ∧ k ≤ 4 := by
      by_cases z : 2 ≤ k ∧ k ≤ 4
      · exact z
      · rw [if_neg z] at h; exact absurd rfl h
    rw [if_pos hk]
    obtain ⟨kn, hkn, rfl⟩ := nI_of2 (n := 4) (M := 4) (by decide) (fun z => absurd (Int32.lt_of_lt_of_le z (by decide : (0 : Int32) ≤ 2)) (Int32.not_lt.mpr hk.1)) hk.2
    have hk2 : 2 ≤ kn := (nI_leI (a := 2) (b := kn) (by omega) (by omega)).mp hk.1
    rw [nI_clamp (by omega)]
    refine mGo_run (n := 400) ok rfl ?_
    cases hv : vF F f with
    | none =>
      refine mGo_callP ok rfl (by omega) (m_isFormula0 (d := d) hm.1 hf.1 hf.2.1 (vF_none hf.2.1 hv)) ?_
      refine mGo_run (n := 400) ok rfl ?_
      refine mGo_if ok rfl (fun h3 => ?_) (fun h3 => ?_)
      · refine mGo_run (n := 400) ok rfl ?_
        exact mGo_ret ok rfl trivial (⟨rfl, rfl, fr.refl, fm.refl, hm⟩)
      · exact absurd rfl h3
    | some i =>
      obtain ⟨hi, rfl⟩ := vF_some hf.2.1 hv
      refine mGo_callP ok rfl (by omega) (m_isFormula1 (d := d) hm.1 hf.1 hf.2.1 hi) ?_
      refine mGo_run (n := 400) ok rfl ?_
      refine mGo_if ok rfl (fun h3 => ?_) (fun h3 => ?_)
      · exact absurd h3 (by decide)
      · refine mGo_run (n := 400) ok rfl ?_
        cases hv2 : vF F h2 with
        | none =>
          refine mGo_callP ok rfl (by omega) (m_isFormula0 (d := d) hm.1 hf.1 hf.2.1 (vF_none hf.2.1 hv2)) ?_
          refine mGo_run (n := 400) ok rfl ?_
          refine mGo_if ok rfl (fun h4 => ?_) (fun h4 => ?_)
          · refine mGo_run (n := 400) ok rfl ?_
            exact mGo_ret ok rfl trivial (⟨rfl, rfl, fr.refl, fm.refl, hm⟩)
          · exact absurd rfl h4
        | some j =>
          obtain ⟨hj, rfl⟩ := vF_some hf.2.1 hv2
          refine mGo_callP ok rfl (by omega) (m_isFormula1 (d := d) hm.1 hf.1 hf.2.1 hj) ?_
          refine mGo_run (n := 400) ok rfl ?_
          refine mGo_if ok rfl (fun h4 => ?_) (fun h4 => ?_)
          · exact absurd h4 (by decide)
          · refine mGo_run (n := 400) ok rfl ?_
            refine mGo_side ok rfl (Or.inl rfl) ?_
            refine mGo_run (n := 400) ok rfl ?_
            refine mGo_callR ok rfl (by omega) (m_make (d := d) (fl := false) (k := kn) (a := i) (b := j) hf (mF_WI (by decide) hm) (by simp [WI_at, bI]) (by omega) hi hj) (fun σ1 hσ1 => ?_)
            refine mGo_run (n := 400) ok rfl ?_
            rw [hm.1]
            refine mGo_callR ok rfl (by omega) (m_settled (d := d) hσ1.2.2.2 _ _) (fun σ2 hσ2 => ?_)
            refine mGo_run (n := 400) ok rfl ?_
            have hq := mk_settle hf hm hσ1 hσ2
            exact mGo_ret ok rfl trivial (⟨by rw [hq.1], rfl, hq.2⟩)
end T
