/-! the reference: formulas asked for -/
theorem neg_nI {x : Nat} (hx : x < 40) : ¬ nI x = -1 := fun z => by
  have := congrArg Int32.toInt z
  rw [nI_toInt (by omega)] at this
  have : (x : Int) = -1 := this
  omega
/-- the reference's formulas where cells above 51 and those below 48 have changed -/
theorem mF_fr {lo hi : Nat} {σ σ1 : mHp} {F : aF} (h : fr lo hi σ σ1) (hlo : 52 ≤ lo ∨ hi ≤ 48) (hm : mF σ F) : mF σ1 F := by
  have e : ∀ i, 48 ≤ i → i < 52 → σ1.1 i = σ.1 i := fun i h1 h2 => (h i (by omega)).1
  rw [mF, e 48 (by omega) (by omega), e 49 (by omega) (by omega), e 50 (by omega) (by omega), e 51 (by omega) (by omega)]
  exact hm
section T
variable {g : mG} {l : Launch} {d : Nat} {lk : Nat} {ex : mSh} {σ : mHp} {F : aF}
theorem y_formulaCount (hm : mF σ F) : mNP g l d 123 [.ref 48] lk ex σ (.int (nI (aN F))) := by
  have ok : mOkP md_X9_formulaCount := ok_at 123 (by decide) rfl
  refine mC_of (md := md_X9_formulaCount) rfl (lt_at (by decide)) rfl ?_
  refine mGo_run (n := 400) ok rfl ?_
  exact mGo_ret ok rfl trivial (⟨by rw [hm.1], rfl, rfl⟩)
theorem y_kind (hf : fOk F) (hm : mF σ F) (f : Int32) : mNP g l (d + 2) 136 [.ref 48, .int f] lk ex σ (.int (qKind F f)) := by
  have ok : mOkP md_X9_kind := ok_at 136 (by decide) rfl
  refine mC_of (md := md_X9_kind) rfl (lt_at (by decide)) rfl ?_
  have hn := hf.2.1
  unfold qKind
  refine mGo_run (n := 400) ok rfl ?_
  cases hv : vF F f with
  | none =>
    refine mGo_callP ok rfl (by omega) (m_isFormula0 (d := d) hm.1 hf.1 hf.2.1 (vF_none hf.2.1 hv)) ?_
    refine mGo_run (n := 400) ok rfl ?_
    refine mGo_if ok rfl (fun h => ?_) (fun h => ?_)
    · refine mGo_run (n := 400) ok rfl ?_
      exact mGo_ret ok rfl trivial (⟨rfl, rfl, rfl⟩)
    · exact absurd rfl h
  | some j =>
    obtain ⟨hj, rfl⟩ := vF_some hf.2.1 hv
    refine mGo_callP ok rfl (by omega) (m_isFormula1 (d := d) hm.1 hf.1 hf.2.1 hj) ?_
    refine mGo_run (n := 400) ok rfl ?_
    refine mGo_if ok rfl (fun h => ?_) (fun h => ?_)
    · exact absurd h (by decide)
    · refine mGo_run (n := 400) ok rfl ?_
      refine mGo_side ok rfl (nI_in (by omega) (by omega)) ?_
      refine mGo_run (n := 400) ok rfl ?_
      exact mGo_ret ok rfl trivial (⟨by rw [nI_clamp (by omega), (hm.2 j hj).1], rfl, rfl⟩)
theorem y_part (hf : fOk F) (hm : mF σ F) (f w : Int32) : mNP g l (d + 2) 137 [.ref 48, .int f, .int w] lk ex σ (.int (qPart F f w)) := by
  have ok : mOkP md_X9_part := ok_at 137 (by decide) rfl
  refine mC_of (md := md_X9_part) rfl (lt_at (by decide)) rfl ?_
  have hn := hf.2.1
  unfold qPart
  refine mGo_run (n := 400) ok rfl ?_
  cases hv : vF F f with
  | none =>
    refine mGo_callP ok rfl (by omega) (m_isFormula0 (d := d) hm.1 hf.1 hf.2.1 (vF_none hf.2.1 hv)) ?_
    refine mGo_run (n := 400) ok rfl ?_
    refine mGo_if ok rfl (fun h => ?_) (fun h => ?_)
    · refine mGo_run (n := 400) ok rfl ?_
      exact mGo_ret ok rfl trivial (⟨rfl, rfl, rfl⟩)
    · exact absurd rfl h
  | some j =>
    obtain ⟨hj, rfl⟩ := vF_some hf.2.1 hv
    obtain ⟨w1, w2, w3, w4, w5, w6⟩ := hf.2.2 j hj
    obtain ⟨c1, c2, c3⟩ := hm.2 j hj
    have cj : (nI j).toNatClampNeg = j := nI_clamp (by omega)
    have hin : vp_in (nI j) 40 := nI_in (by omega) (by omega)
    refine mGo_callP ok rfl (by omega) (m_isFormula1 (d := d) hm.1 hf.1 hf.2.1 hj) ?_
    refine mGo_run (n := 400) ok rfl ?_
    refine mGo_if ok rfl (fun h => ?_) (fun h => ?_)
    · exact absurd h (by decide)
    · refine mGo_run (n := 400) ok rfl ?_
      refine mGo_callP ok rfl (by omega) (m_isIn (d := d + 1) w 0 1) ?_
      refine mGo_run (n := 400) ok rfl ?_
      refine mGo_if ok rfl (fun h0 => ?_) (fun h0 => ?_)
      · have hw : ¬ (0 ≤ w ∧ w ≤ 1) := fun z => by rw [if_pos z] at h0; exact absurd h0 (by decide)
        have n0 : ¬ w = 0 := fun z => hw (by rw [z]; decide)
        have n1 : ¬ w = 1 := fun z => hw (by rw [z]; decide)
        refine mGo_run (n := 400) ok rfl ?_
        exact mGo_ret ok rfl trivial (⟨by simp only [if_neg n0, if_neg n1], rfl, rfl⟩)
      · have hw : 0 ≤ w ∧ w ≤ 1 := by
          by_cases z : 0 ≤ w ∧ w ≤ 1
          · exact z
          · rw [if_neg z] at h0; exact absurd rfl h0
        have h01 : w = 0 ∨ w = 1 := by
          obtain ⟨kn, hkn, rfl⟩ := nI_of2 (n := 1) (M := 1) (by decide) (Int32.not_lt.mpr hw.1) hw.2
          rcases (show kn = 0 ∨ kn = 1 by omega) with rfl | rfl
          · exact Or.inl rfl
          · exact Or.inr rfl
        refine mGo_run (n := 400) ok rfl ?_
        refine mGo_side ok rfl (hin) ?_
        rw [cj, c1]
        refine mGo_run (n := 400) ok rfl ?_
        refine mGo_if ok rfl (fun hk => ?_) (fun hk => ?_)
        · have k0 : aK F j = 0 := (nI_eq (a := aK F j) (b := 0) (by omega) (by omega)).mp hk
          refine mGo_run (n := 400) ok rfl ?_
          exact mGo_ret ok rfl trivial (⟨by rcases h01 with rfl | rfl <;> simp [k0], rfl, rfl⟩)
        · have k0 : aK F j ≠ 0 := fun z => hk (by rw [z]; rfl)
          refine mGo_run (n := 400) ok rfl ?_
          refine mGo_if ok rfl (fun h1 => ?_) (fun h1 => ?_)
          · subst h1
            refine mGo_run (n := 400) ok rfl ?_
            refine mGo_side ok rfl (hin) ?_
            rw [cj, c1]
            refine mGo_run (n := 400) ok rfl ?_
            refine mGo_if ok rfl (fun hk1 => ?_) (fun hk1 => ?_)
            · have k1 : aK F j = 1 := (nI_eq (a := aK F j) (b := 1) (by omega) (by omega)).mp hk1
              refine mGo_run (n := 400) ok rfl ?_
              exact mGo_ret ok rfl trivial (⟨by simp [k1], rfl, rfl⟩)
            · have k1 : aK F j ≠ 1 := fun z => hk1 (by rw [z]; rfl)
              refine mGo_run (n := 400) ok rfl ?_
              refine mGo_if ok rfl (fun h2 => ?_) (fun h2 => ?_)
              · exact absurd h2 (by decide)
              · refine mGo_run (n := 400) ok rfl ?_
                refine mGo_side ok rfl (hin) ?_
                rw [cj, c3]
                refine mGo_run (n := 400) ok rfl ?_
                exact mGo_ret ok rfl trivial (⟨by simp only [if_neg (show ¬ (1 : Int32) = 0 by decide), if_true, if_neg (show ¬ aK F j < 2 by omega)], rfl, rfl⟩)
          · have e : w = 0 := h01.resolve_right h1
            subst e
            refine mGo_run (n := 400) ok rfl ?_
            refine mGo_if ok rfl (fun h2 => ?_) (fun h2 => ?_)
            · refine mGo_run (n := 400) ok rfl ?_
              refine mGo_side ok rfl (hin) ?_
              rw [cj, c2]
              refine mGo_run (n := 400) ok rfl ?_
              exact mGo_ret ok rfl trivial (⟨by simp only [if_true, if_neg k0], rfl, rfl⟩)
            · exact absurd rfl h2
theorem y_size (hf : fOk F) (hm : mF σ F) (f : Int32) : mNR g l (d + 2) 138 [.ref 48, .int f] lk ex σ (.int (qSize F f)) (fun σ1 => fr 53 54 σ σ1) := by
  have ok : mOkP md_X9_size := ok_at 138 (by decide) rfl
  refine mC_of (md := md_X9_size) rfl (lt_at (by decide)) rfl ?_
  have hn := hf.2.1
  unfold qSize
  refine mGo_run (n := 400) ok rfl ?_
  cases hv : vF F f with
  | none =>
    refine mGo_callP ok rfl (by omega) (m_isFormula0 (d := d) hm.1 hf.1 hf.2.1 (vF_none hf.2.1 hv)) ?_
    refine mGo_run (n := 400) ok rfl ?_
    refine mGo_if ok rfl (fun h => ?_) (fun h => ?_)
    · refine mGo_run (n := 400) ok rfl ?_
      exact mGo_ret ok rfl trivial (⟨rfl, rfl, fr.refl⟩)
    · exact absurd rfl h
  | some j =>
    obtain ⟨hj, rfl⟩ := vF_some hf.2.1 hv
    refine mGo_callP ok rfl (by omega) (m_isFormula1 (d := d) hm.1 hf.1 hf.2.1 hj) ?_
    refine mGo_run (n := 400) ok rfl ?_
    refine mGo_if ok rfl (fun h => ?_) (fun h => ?_)
    · exact absurd h (by decide)
    · refine mGo_runS 13 (n := 400) ok rfl ?_
      have loop : ∀ m i : Nat, i + m = j + 1 → ∀ τ : mHp, fr 53 54 σ τ → (∀ x, x < i → τ.1 53 x = fSz F x) → mGo g l (d + 2) md_X9_size (SH lk ex).length (mTot (SH lk ex)) (13, [some (.ref 48), some (.int (nI j)), some (.int (nI i)), none], [], SH lk ex, τ) (fun r sp σ1 => r = some (.int (fSz F j)) ∧ sp = SH lk ex ∧ fr 53 54 σ σ1) := by
        intro m
        induction m with
        | zero =>
          intro i hi τ ht hv
          refine mGo_run (n := 400) ok rfl ?_
          refine mGo_if ok rfl (fun h1 => ?_) (fun h1 => ?_)
          · refine mGo_run (n := 400) ok rfl ?_
            refine mGo_side ok rfl (nI_in (by omega) (by omega)) ?_
            refine mGo_run (n := 400) ok rfl ?_
            exact mGo_ret ok rfl trivial (⟨by rw [nI_clamp (by omega), hv j (by omega)], rfl, ht⟩)
          · exact absurd ((nI_ltI (a := j) (b := i) (by omega) (by omega)).mpr (by omega)) h1
        | succ m ih =>
          intro i hi τ ht hv
          have hin : i < aN F := by omega
          have hmt := mF_fr ht (Or.inl (by omega)) hm
          obtain ⟨w1, w2, w3, w4, w5, w6⟩ := hf.2.2 i hin
          obtain ⟨c1, c2, c3⟩ := hmt.2 i hin
          have ci : (nI i).toNatClampNeg = i := nI_clamp (by omega)
          have hv0 : vp_in (nI i) 40 := nI_in (by omega) (by omega)
          have hmono : ∀ v : Int32, v = fSz F i → mGo g l (d + 2) md_X9_size (SH lk ex).length (mTot (SH lk ex)) (13, [some (.ref 48), some (.int (nI j)), some (.int (nI (i + 1))), none], [], SH lk ex, mWI τ 53 i v) (fun r sp σ1 => r = some (.int (fSz F j)) ∧ sp = SH lk ex ∧ fr 53 54 σ σ1) := by
            intro v hv1
            refine ih (i + 1) (by omega) _ (ht.WI (by omega) (by omega)) (fun x hx => ?_)
            rw [WI_at]
            by_cases e : x = i
            · subst e; simp [hv1]
            · simp [e]; exact hv x (by omega)
          have store : ∀ x : Int32, (if 1000 < x then (1000 : Int32) else x) = fSz F i → mGo g l (d + 2) md_X9_size (SH lk ex).length (mTot (SH lk ex)) (70, [some (.ref 48), some (.int (nI j)), some (.int (nI i)), none], [.int x], SH lk ex, τ) (fun r sp σ1 => r = some (.int (fSz F j)) ∧ sp = SH lk ex ∧ fr 53 54 σ σ1) := by
            intro x hx
            refine mGo_run (n := 400) ok rfl ?_
            refine mGo_callP ok rfl (by omega) (c_min (d := d + 1) x 1000) ?_
            refine mGo_run (n := 400) ok rfl ?_
            refine mGo_side ok rfl (hv0) ?_
            rw [ci]
            refine mGo_runS 13 (n := 400) ok rfl ?_
            rw [nI_1]
            exact mGo_weak (L' := [some (.ref 48), some (.int (nI j)), some (.int (nI (i + 1))), none]) ⟨rfl, rfl, rfl, trivial⟩ (hmono _ hx)
          have hstep : szR F (τ.1 53) i = fSz F i := rc_next (szL hf) hin hv
          refine mGo_run (n := 400) ok rfl ?_
          refine mGo_if ok rfl (fun h1 => ?_) (fun h1 => ?_)
          · exact absurd ((nI_ltI (a := j) (b := i) (by omega) (by omega)).mp h1) (by omega)
          · refine mGo_run (n := 400) ok rfl ?_
            refine mGo_side ok rfl (hv0) ?_
            rw [ci, c1]
            refine mGo_run (n := 400) ok rfl ?_
            refine mGo_if ok rfl (fun hk => ?_) (fun hk => ?_)
            · have k0 : aK F i = 0 := (nI_eq (a := aK F i) (b := 0) (by omega) (by omega)).mp hk
              refine mGo_runS 70 (n := 400) ok rfl ?_
              refine store 1 ?_
              rw [← hstep, szR, if_pos k0]; decide
            · have k0 : aK F i ≠ 0 := fun z => hk (by rw [z]; rfl)
              have hA := w3 k0
              have cA : (nI (aA F i)).toNatClampNeg = aA F i := nI_clamp (by omega)
              refine mGo_run (n := 400) ok rfl ?_
              refine mGo_side ok rfl (hv0) ?_
              rw [ci, c2]
              refine mGo_side ok rfl (nI_in (by omega) (by omega)) ?_
              rw [cA]
              refine mGo_run (n := 400) ok rfl ?_
              refine mGo_side ok rfl (hv0) ?_
              rw [ci, c1]
              refine mGo_run (n := 400) ok rfl ?_
              have fin : ∀ y : Int32, (if aK F i = 1 then (0 : Int32) else τ.1 53 (aB F i)) = y → (if 1000 < 1 + τ.1 53 (aA F i) + y then (1000 : Int32) else 1 + τ.1 53 (aA F i) + y) = fSz F i := by
                intro y hy
                rw [← hstep, szR, if_neg k0, hy]
                by_cases q : 1 + τ.1 53 (aA F i) + y < 1000
                · rw [if_pos q, if_neg (fun z => Int32.lt_irrefl (Int32.lt_trans z q))]
                · rw [if_neg q]
                  by_cases q2 : 1000 < 1 + τ.1 53 (aA F i) + y
                  · rw [if_pos q2]
                  · rw [if_neg q2]; exact Int32.le_antisymm (Int32.not_lt.mp q2) (Int32.not_lt.mp q)
              refine mGo_if ok rfl (fun hk1 => ?_) (fun hk1 => ?_)
              · have k1 : aK F i = 1 := (nI_eq (a := aK F i) (b := 1) (by omega) (by omega)).mp hk1
                refine mGo_runS 70 (n := 400) ok rfl ?_
                exact store _ (fin 0 (by rw [if_pos k1]))
              · have k1 : aK F i ≠ 1 := fun z => hk1 (by rw [z]; rfl)
                have hB := w4 (by omega)
                have cB : (nI (aB F i)).toNatClampNeg = aB F i := nI_clamp (by omega)
                refine mGo_run (n := 400) ok rfl ?_
                refine mGo_side ok rfl (hv0) ?_
                rw [ci, c3]
                refine mGo_side ok rfl (nI_in (by omega) (by omega)) ?_
                rw [cB]
                refine mGo_runS 70 (n := 400) ok rfl ?_
                exact store _ (fin _ (by rw [if_neg k1]))
      exact loop (j + 1) 0 (by omega) σ fr.refl (fun x hx => by omega)
theorem y_subformulas (hf : fOk F) (hm : mF σ F) (f : Int32) : mNR g l (d + 2) 139 [.ref 48, .int f] lk ex σ (.long (qSub F f)) (fun σ1 => fr 55 56 σ σ1) := by
  have ok : mOkP md_X9_subformulas := ok_at 139 (by decide) rfl
  refine mC_of (md := md_X9_subformulas) rfl (lt_at (by decide)) rfl ?_
  have hn := hf.2.1
  unfold qSub
  refine mGo_run (n := 400) ok rfl ?_
  cases hv : vF F f with
  | none =>
    refine mGo_callP ok rfl (by omega) (m_isFormula0 (d := d) hm.1 hf.1 hf.2.1 (vF_none hf.2.1 hv)) ?_
    refine mGo_run (n := 400) ok rfl ?_
    refine mGo_if ok rfl (fun h => ?_) (fun h => ?_)
    · refine mGo_run (n := 400) ok rfl ?_
      exact mGo_ret ok rfl trivial (⟨rfl, rfl, fr.refl⟩)
    · exact absurd rfl h
  | some j =>
    obtain ⟨hj, rfl⟩ := vF_some hf.2.1 hv
    refine mGo_callP ok rfl (by omega) (m_isFormula1 (d := d) hm.1 hf.1 hf.2.1 hj) ?_
    refine mGo_run (n := 400) ok rfl ?_
    refine mGo_if ok rfl (fun h => ?_) (fun h => ?_)
    · exact absurd h (by decide)
    · refine mGo_runS 14 (n := 400) ok rfl ?_
      have loop : ∀ m i : Nat, i + m = j + 1 → ∀ τ : mHp, fr 55 56 σ τ → (∀ x, x < i → τ.2.1 55 x = fSb F x) → mGo g l (d + 2) md_X9_subformulas (SH lk ex).length (mTot (SH lk ex)) (14, [some (.ref 48), some (.int (nI j)), some (.int (nI i))], [], SH lk ex, τ) (fun r sp σ1 => r = some (.long (fSb F j)) ∧ sp = SH lk ex ∧ fr 55 56 σ σ1) := by
        intro m
        induction m with
        | zero =>
          intro i hi τ ht hv
          refine mGo_run (n := 400) ok rfl ?_
          refine mGo_if ok rfl (fun h1 => ?_) (fun h1 => ?_)
          · refine mGo_run (n := 400) ok rfl ?_
            refine mGo_side ok rfl (nI_in (by omega) (by omega)) ?_
            refine mGo_run (n := 400) ok rfl ?_
            exact mGo_ret ok rfl trivial (⟨by rw [nI_clamp (by omega), hv j (by omega)], rfl, ht⟩)
          · exact absurd ((nI_ltI (a := j) (b := i) (by omega) (by omega)).mpr (by omega)) h1
        | succ m ih =>
          intro i hi τ ht hv
          have hin : i < aN F := by omega
          have hmt := mF_fr ht (Or.inl (by omega)) hm
          obtain ⟨w1, w2, w3, w4, w5, w6⟩ := hf.2.2 i hin
          obtain ⟨c1, c2, c3⟩ := hmt.2 i hin
          have ci : (nI i).toNatClampNeg = i := nI_clamp (by omega)
          have hv0 : vp_in (nI i) 40 := nI_in (by omega) (by omega)
          have hstep : sbR F (τ.2.1 55) i = fSb F i := rc_next (sbL hf) hin hv
          have last : ∀ (v1 v2 v3 : Int64), v3 = fSb F i → mGo g l (d + 2) md_X9_subformulas (SH lk ex).length (mTot (SH lk ex)) (14, [some (.ref 48), some (.int (nI j)), some (.int (nI (i + 1)))], [], SH lk ex, mWL (mWL (mWL τ 55 i v1) 55 i v2) 55 i v3) (fun r sp σ1 => r = some (.long (fSb F j)) ∧ sp = SH lk ex ∧ fr 55 56 σ σ1) := by
            intro v1 v2 v3 hv3
            refine ih (i + 1) (by omega) _ (((ht.WL (by omega) (by omega)).WL (by omega) (by omega)).WL (by omega) (by omega)) (fun x hx => ?_)
            simp only [WL_at]
            by_cases e : x = i
            · subst e; simp [hv3]
            · simp [e]; exact hv x (by omega)
          have bz : (bit i ||| 0) ||| 0 = bit i := by simp
          refine mGo_run (n := 400) ok rfl ?_
          refine mGo_if ok rfl (fun h1 => ?_) (fun h1 => ?_)
          · exact absurd ((nI_ltI (a := j) (b := i) (by omega) (by omega)).mp h1) (by omega)
          · refine mGo_run (n := 400) ok rfl ?_
            refine mGo_side ok rfl (hv0) ?_
            rw [ci]
            refine mGo_run (n := 400) ok rfl ?_
            refine mGo_side ok rfl (hv0) ?_
            rw [ci]
            refine mGo_run (n := 400) ok rfl ?_
            refine mGo_side ok rfl (hv0) ?_
            rw [ci, show (mWL τ 55 i ((1 : Int64) <<< ((nI i).toInt64 &&& 63))).1 49 i = nI (aK F i) from c1]
            refine mGo_run (n := 400) ok rfl ?_
            refine mGo_if ok rfl (fun hk => ?_) (fun hk => ?_)
            · have k0 : aK F i = 0 := (nI_eq (a := aK F i) (b := 0) (by omega) (by omega)).mp hk
              refine mGo_run (n := 400) ok rfl ?_
              refine mGo_side ok rfl (hv0) ?_
              rw [ci]
              refine mGo_run (n := 400) ok rfl ?_
              refine mGo_side ok rfl (hv0) ?_
              rw [ci]
              refine mGo_run (n := 400) ok rfl ?_
              refine mGo_side ok rfl (hv0) ?_
              rw [ci]
              refine mGo_run (n := 400) ok rfl ?_
              refine mGo_if ok rfl (fun h2 => ?_) (fun h2 => ?_)
              · exact absurd (show nI 2 ≤ nI (aK F i) from c1 ▸ h2) (nI_ge (by omega) (by omega))
              · refine mGo_run (n := 400) ok rfl ?_
                refine mGo_side ok rfl (hv0) ?_
                rw [ci]
                refine mGo_runS 14 (n := 400) ok rfl ?_
                rw [nI_1]
                refine last _ _ _ ?_
                rw [← hstep, sbR, if_pos k0]
                simp only [WL_at, and_self, if_true]
                exact bz
            · have k0 : aK F i ≠ 0 := fun z => hk (by rw [z]; rfl)
              have hA := w3 k0
              have cA : (nI (aA F i)).toNatClampNeg = aA F i := nI_clamp (by omega)
              refine mGo_run (n := 400) ok rfl ?_
              refine mGo_side ok rfl (hv0) ?_
              rw [ci, show (mWL τ 55 i ((1 : Int64) <<< ((nI i).toInt64 &&& 63))).1 50 i = nI (aA F i) from c2]
              refine mGo_side ok rfl (nI_in (by omega) (by omega)) ?_
              rw [cA]
              refine mGo_run (n := 400) ok rfl ?_
              refine mGo_side ok rfl (hv0) ?_
              rw [ci]
              refine mGo_run (n := 400) ok rfl ?_
              refine mGo_side ok rfl (hv0) ?_
              rw [ci]
              refine mGo_run (n := 400) ok rfl ?_
              refine mGo_side ok rfl (hv0) ?_
              rw [ci]
              refine mGo_run (n := 400) ok rfl ?_
              refine mGo_if ok rfl (fun h2 => ?_) (fun h2 => ?_)
              · have k2 : 2 ≤ aK F i := by
                  rcases Nat.lt_or_ge (aK F i) 2 with q | q
                  · exact absurd (show nI 2 ≤ nI (aK F i) from c1 ▸ h2) (nI_ge q (by omega))
                  · exact q
                have hB := w4 k2
                have cB : (nI (aB F i)).toNatClampNeg = aB F i := nI_clamp (by omega)
                refine mGo_run (n := 400) ok rfl ?_
                refine mGo_side ok rfl (hv0) ?_
                rw [ci]
                refine mGo_side ok rfl (show vp_in _ 40 from ?_) ?_
                · show vp_in (τ.1 51 i) 40
                  rw [c3]; exact nI_in (by omega) (by omega)
                refine mGo_run (n := 400) ok rfl ?_
                refine mGo_side ok rfl (hv0) ?_
                rw [ci]
                refine mGo_runS 14 (n := 400) ok rfl ?_
                rw [nI_1]
                refine last _ _ _ ?_
                rw [← hstep, sbR, if_neg k0, if_neg (by omega)]
                have e51 : (τ.1 51 i).toNatClampNeg = aB F i := by rw [c3]; exact cB
                have nA : aA F i ≠ i := by omega
                have nB : aB F i ≠ i := by omega
                show ((mWL (mWL τ 55 i _) 55 i _).2.1 55 i ||| (mWL (mWL τ 55 i _) 55 i _).2.1 55 (τ.1 51 i).toNatClampNeg) = _
                rw [e51]
                simp only [WL_at, and_self, if_true, nA, nB, and_false, if_false]
                rfl
              · have k1 : aK F i = 1 := by
                  rcases Nat.lt_or_ge (aK F i) 2 with q | q
                  · omega
                  · exact absurd (show (2 : Int32) ≤ _ from by show nI 2 ≤ τ.1 49 i; rw [c1]; exact nI_le q (by omega)) h2
                refine mGo_run (n := 400) ok rfl ?_
                refine mGo_side ok rfl (hv0) ?_
                rw [ci]
                refine mGo_runS 14 (n := 400) ok rfl ?_
                rw [nI_1]
                refine last _ _ _ ?_
                have nA : aA F i ≠ i := by omega
                rw [← hstep, sbR, if_neg k0, if_pos k1]
                simp only [WL_at, and_self, if_true, nA, and_false, if_false]
                rfl
      exact loop (j + 1) 0 (by omega) σ fr.refl (fun x hx => by omega)
end T
