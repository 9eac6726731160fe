/-! the class reads a whole text; the class's parse -/
theorem TK_len {s : Int32} {ops vals o v : List Nat} {F F1 : aF} (h : TK s ops vals F = some (o, v, F1)) : o.length ≤ ops.length + 1 ∧ v.length ≤ vals.length + 1 := by
  unfold TK at h
  by_cases c5 : cls s = 5
  · rw [if_pos c5] at h
    cases h
    exact ⟨by omega, by simp⟩
  · rw [if_neg c5] at h
    by_cases c6 : cls s = 6
    · rw [if_pos c6] at h
      cases h
      exact ⟨by simp, by omega⟩
    · rw [if_neg c6] at h
      by_cases c7 : cls s = 7
      · rw [if_pos c7] at h
        cases e : JU 4 ops vals F with
        | none => rw [e] at h; cases h
        | some x =>
          obtain ⟨o1, v1, F2⟩ := x
          rw [e] at h
          have := JU_len e
          cases h
          exact ⟨by simp; omega, by omega⟩
      · rw [if_neg c7] at h
        by_cases c1 : cls s = 1
        · rw [if_pos c1] at h
          cases h
          exact ⟨by simp, by omega⟩
        · rw [if_neg c1] at h
          cases e : JU (if cls s < 3 then cls s else 3) ops vals F with
          | none => rw [e] at h; cases h
          | some x =>
            obtain ⟨o1, v1, F2⟩ := x
            rw [e] at h
            have := JU_len e
            cases h
            exact ⟨by simp; omega, by omega⟩
theorem AF_cls {T : aI} : ∀ (m : Nat) (w : Bool) (dp k : Nat), AF T w dp k m = none → ∀ i, k ≤ i → i < k + m → cls (T.2 i) ≠ 0 := by
  intro m
  induction m with
  | zero => intro w dp k h i h1 h2; omega
  | succ m ih =>
    intro w dp k h i h1 h2
    have key : ∀ (w1 : Bool) (dp1 : Nat), cls (T.2 k) ≠ 0 → AF T w1 dp1 (k + 1) m = none → cls (T.2 i) ≠ 0 := by
      intro w1 dp1 hc h3
      rcases Nat.eq_or_lt_of_le h1 with z | z
      · rw [← z]; exact hc
      · exact ih w1 dp1 (k + 1) h3 i z (by omega)
    cases w with
    | true =>
      simp only [AF] at h
      split at h
      · exact key _ _ (by omega) h
      · split at h
        · exact key _ _ (by omega) h
        · split at h
          · exact key _ _ (by omega) h
          · cases h
    | false =>
      simp only [AF] at h
      split at h
      · exact key _ _ (by omega) h
      · split at h
        · exact key _ _ (by omega) h
        · cases h
theorem cS_fr {lo hi : Nat} {σ σ1 : mHp} {F : aF} (h : fr lo hi σ σ1) (hlo : 8 ≤ lo ∨ hi ≤ 1) (hs : cS σ F) : cS σ1 F := by
  obtain ⟨e5, -, -⟩ := h 5 (by omega)
  obtain ⟨e6, -, -⟩ := h 6 (by omega)
  obtain ⟨-, e7, -⟩ := h 7 (by omega)
  intro j hj
  rw [e5, e6, e7]
  exact hs j hj
/-- what a text's reading comes to -/
def qB (F : aF) (R : Option (List Nat × List Nat × aF)) : Int32 × aF := match R with
  | some (_, [x], F1) => (nI x, F1)
  | _ => (-3, F)
section T
variable {g : mG} {l : Launch} {d : Nat} {lk : Nat} {ex : mSh} {σ : mHp} {T : aI} {F : aF}
theorem cI_frT {σ1 : mHp} (h : frT σ σ1) (hc : cI σ T) : cI σ1 T := by
  obtain ⟨a, -, -⟩ := h 8 (by omega) (by omega)
  obtain ⟨b, -, -⟩ := h 9 (by omega) (by omega)
  exact ⟨by rw [a]; exact hc.1, fun i hi => by rw [b]; exact hc.2 i hi⟩
set_option maxHeartbeats 1000000 in
theorem c_build (hT : T.1 ≤ 40) (hI : cI σ T) (hs : ∀ i, i < T.1 → cls (T.2 i) ≠ 0) (hf : fOk F) (hc : cF σ F) (hS : cS σ F) : mNR g l (d + 5) 61 [.ref 10, .ref 8] lk ex σ (.int (qB F (BF T 0 T.1 [] [] F)).1) (fun σ1 => frT σ σ1 ∧ cF σ1 (qB F (BF T 0 T.1 [] [] F)).2 ∧ cS σ1 (qB F (BF T 0 T.1 [] [] F)).2 ∧ fOk (qB F (BF T 0 T.1 [] [] F)).2 ∧ fle F (qB F (BF T 0 T.1 [] [] F)).2) := by
  have ok : mOkP md_X6_build := ok_at 61 (by decide) rfl
  refine mC_of (md := md_X6_build) rfl (lt_at (by decide)) rfl ?_
  have h4 := hf.1
  have h40 := hf.2.1
  have bad : ∀ (τ : mHp) (F1 : aF) (L3 : Option Value), cF τ F1 → cS τ F1 → fle F F1 → fOk F1 → frT σ τ → mGo g l (d + 5) md_X6_build (SH lk ex).length (mTot (SH lk ex)) (68, [some (.ref 10), some (.ref 8), some (.int (nI (aN F))), L3], [], SH lk ex, τ) (fun r sp σ1 => r = some (.int (-3)) ∧ sp = SH lk ex ∧ (frT σ σ1 ∧ cF σ1 F ∧ cS σ1 F ∧ fOk F ∧ fle F F)) := by
    intro τ F1 L3 f1 s1 hle k1 t
    have := k1.2.1
    have := hle.1
    refine mGo_run (n := 400) ok rfl ?_
    refine mGo_callV ok rfl (by omega) (c_shrinkTo (d := d) f1.1 (by omega) (k := aN F) (by omega) (by omega)) (fun τ1 hτ1 => ?_)
    subst hτ1
    refine mGo_run (n := 400) ok rfl ?_
    exact mGo_ret ok rfl trivial (⟨rfl, rfl, t.WI (by omega), cF_cut hle f1, cS_cut hle s1, hf, fle.refl⟩)
  have fullE : ∀ (τ : mHp) (o : List Nat) (F1 : aF) (L3 : Option Value), cU τ o F1 → fle F F1 → frT σ τ → mGo g l (d + 5) md_X6_build (SH lk ex).length (mTot (SH lk ex)) (53, [some (.ref 10), some (.ref 8), some (.int (nI (aN F))), L3], [], SH lk ex, τ) (fun r sp σ1 => r = some (.int (-3)) ∧ sp = SH lk ex ∧ (frT σ σ1 ∧ cF σ1 F ∧ cS σ1 F ∧ fOk F ∧ fle F F)) := by
    intro τ o F1 L3 hu hle t
    obtain ⟨o1, v1, u1, f1, s1, k1, p1, q1⟩ := hu
    refine mGo_run (n := 400) ok rfl ?_
    rw [u1]
    refine mGo_if ok rfl (fun h1 => ?_) (fun h1 => ?_)
    · exact absurd h1 (by decide)
    · exact bad τ F1 L3 f1 s1 hle k1 t
  have loopU : ∀ m k, k + m = T.1 → ∀ (τ : mHp) (ops : List Nat) (F1 : aF), cU τ ops F1 → fle F F1 → ops.length ≤ k → frT σ τ → mGo g l (d + 5) md_X6_build (SH lk ex).length (mTot (SH lk ex)) (25, [some (.ref 10), some (.ref 8), some (.int (nI (aN F))), some (.int (nI k))], [], SH lk ex, τ) (fun r sp σ1 => r = some (.int (-3)) ∧ sp = SH lk ex ∧ (frT σ σ1 ∧ cF σ1 F ∧ cS σ1 F ∧ fOk F ∧ fle F F)) := by
    intro m
    induction m with
    | zero =>
      intro k hk τ ops F1 hu hle hol t
      refine mGo_run (n := 400) ok rfl ?_
      rw [(cI_frT t hI).1]
      refine mGo_ifI ok rfl (nI_leI (a := T.1) (b := k) (by omega) (by omega)) (fun h1 => ?_) (fun h1 => ?_)
      · refine mGo_run (n := 400) ok rfl ?_
        refine mGo_callV ok rfl (by omega) (c_joinUpToU (d := d) (L := 4) (by omega) hu (by omega)) (fun τ1 hτ1 => ?_)
        obtain ⟨t1, o, ol, hu1⟩ := hτ1
        exact fullE τ1 o F1 _ hu1 hle (t.trans t1)
      · omega
    | succ m ih =>
      intro k hk τ ops F1 hu hle hol t
      have hI1 := cI_frT t hI
      refine mGo_run (n := 400) ok rfl ?_
      rw [hI1.1]
      refine mGo_ifI ok rfl (nI_leI (a := T.1) (b := k) (by omega) (by omega)) (fun h1 => ?_) (fun h1 => ?_)
      · omega
      · refine mGo_run (n := 400) ok rfl ?_
        refine mGo_callP ok rfl (by omega) (c_signAt (d := d) hT hI1 (k := k) (by omega)) ?_
        refine mGo_callV ok rfl (by omega) (c_takeU (d := d) hu (by omega) (hs k (by omega))) (fun τ1 hτ1 => ?_)
        obtain ⟨t1, o, ol, hu1⟩ := hτ1
        refine mGo_runS 25 (n := 400) ok rfl ?_
        rw [nI_1]
        exact ih (k + 1) (by omega) τ1 o F1 hu1 hle (by omega) (t.trans t1)
  have loop : ∀ m k, k + m = T.1 → ∀ (τ : mHp) (ops vals : List Nat) (F1 : aF) (R : Option (List Nat × List Nat × aF)), cT τ ops vals F1 → fle F F1 → ops.length ≤ k → vals.length ≤ k → frT σ τ → BF T k m ops vals F1 = R → mGo g l (d + 5) md_X6_build (SH lk ex).length (mTot (SH lk ex)) (25, [some (.ref 10), some (.ref 8), some (.int (nI (aN F))), some (.int (nI k))], [], SH lk ex, τ) (fun r sp σ1 => r = some (.int (qB F R).1) ∧ sp = SH lk ex ∧ (frT σ σ1 ∧ cF σ1 (qB F R).2 ∧ cS σ1 (qB F R).2 ∧ fOk (qB F R).2 ∧ fle F (qB F R).2)) := by
    intro m
    induction m with
    | zero =>
      intro k hk τ ops vals F1 R hu hle hol hvl t hR
      simp only [BF] at hR
      refine mGo_run (n := 400) ok rfl ?_
      rw [(cI_frT t hI).1]
      refine mGo_ifI ok rfl (nI_leI (a := T.1) (b := k) (by omega) (by omega)) (fun h1 => ?_) (fun h1 => ?_)
      · refine mGo_run (n := 400) ok rfl ?_
        refine mGo_callV ok rfl (by omega) (c_joinUpTo (d := d) (L := 4) (by omega) hu (by omega) (by omega)) (fun τ1 hτ1 => ?_)
        obtain ⟨t1, hu1⟩ := hτ1
        rw [hR] at hu1
        cases R with
        | none =>
          obtain ⟨o, F2, hu2, hl2, -⟩ := hu1
          exact fullE τ1 o F2 _ hu2 (hle.trans hl2) (t.trans t1)
        | some x =>
          obtain ⟨o, v, F2⟩ := x
          obtain ⟨hu2, hl2⟩ := hu1
          obtain ⟨o1, v1, u1, f1, s1, k1, p1, q1⟩ := hu2
          have hvl2 := (JU_len hR).2
          refine mGo_run (n := 400) ok rfl ?_
          rw [u1]
          refine mGo_if ok rfl (fun h2 => ?_) (fun h2 => ?_)
          · refine mGo_run (n := 400) ok rfl ?_
            rw [v1.1]
            refine mGo_ifI ok rfl (nI_eq (a := v.length) (b := 1) (by omega) (by omega)) (fun h3 => ?_) (fun h3 => ?_)
            · match v, h3, v1, q1 with
              | [x], h3, v1, q1 =>
                refine mGo_run (n := 400) ok rfl ?_
                refine mGo_side ok rfl (nI_in (c := 0) (N := 40) (by omega) (by omega)) ?_
                rw [show τ1.1 12 (0 : Int32).toNatClampNeg = nI x from v1.2 0 x rfl]
                refine mGo_run (n := 400) ok rfl ?_
                exact mGo_ret ok rfl trivial (⟨rfl, rfl, t.trans t1, f1, s1, k1, hle.trans hl2⟩)
            · have e : qB F (some (o, v, F2)) = (-3, F) := by
                match v, h3 with
                | [], h3 => rfl
                | [x], h3 => exact absurd rfl h3
                | _ :: _ :: _, h3 => rfl
              rw [e]
              exact bad τ1 F2 _ f1 s1 (hle.trans hl2) k1 (t.trans t1)
          · exact absurd rfl h2
      · omega
    | succ m ih =>
      intro k hk τ ops vals F1 R hu hle hol hvl t hR
      have hI1 := cI_frT t hI
      simp only [BF] at hR
      refine mGo_run (n := 400) ok rfl ?_
      rw [hI1.1]
      refine mGo_ifI ok rfl (nI_leI (a := T.1) (b := k) (by omega) (by omega)) (fun h1 => ?_) (fun h1 => ?_)
      · omega
      · refine mGo_run (n := 400) ok rfl ?_
        refine mGo_callP ok rfl (by omega) (c_signAt (d := d) hT hI1 (k := k) (by omega)) ?_
        refine mGo_callV ok rfl (by omega) (c_take (d := d) hu (by omega) (by omega) (hs k (by omega))) (fun τ1 hτ1 => ?_)
        obtain ⟨t1, hu1⟩ := hτ1
        refine mGo_runS 25 (n := 400) ok rfl ?_
        rw [nI_1]
        cases e : TK (T.2 k) ops vals F1 with
        | none =>
          rw [e] at hR hu1
          obtain ⟨o, F2, hu2, hl2, hol2⟩ := hu1
          have hR : none = R := hR
          subst hR
          exact loopU m (k + 1) (by omega) τ1 o F2 hu2 (hle.trans hl2) (by omega) (t.trans t1)
        | some x =>
          obtain ⟨o, v, F2⟩ := x
          rw [e] at hR hu1
          obtain ⟨hu2, hl2⟩ := hu1
          have hl := TK_len e
          exact ih (k + 1) (by omega) τ1 o v F2 R hu2 (hle.trans hl2) (by omega) (by omega) (t.trans t1) hR
  refine mGo_run (n := 400) ok rfl ?_
  refine mGo_side ok rfl (Or.inl rfl) ?_
  refine mGo_runS 25 (n := 400) ok rfl ?_
  rw [hc.1]
  refine loop T.1 0 (by omega) _ [] [] F _ ?_ fle.refl (by simp) (by simp) (((frT.refl.WI (by omega)).WI (by omega)).WI (by omega)) rfl
  refine ⟨⟨by simp [WI_at]; rfl, fun i c h => by simp at h⟩, ⟨by simp [WI_at]; rfl, fun i c h => by simp at h⟩, by simp [WI_at], cF_W (by omega) (cF_W (by omega) (cF_W (by omega) hc)), cS_W (by omega) (cS_W (by omega) (cS_W (by omega) hS)), hf, fun c h => by simp at h, fun c h => by simp at h⟩
/-- parse: the answer, and the formulas -/
def qPar (T : aI) (F : aF) : Int32 × aF := match AF T true 0 0 T.1 with
  | some e => (-1000 - nI e, F)
  | none => qB F (BF T 0 T.1 [] [] F)
theorem x_parse (hT : T.1 ≤ 40) (hI : cI σ T) (hf : fOk F) (hc : cF σ F) (hS : cS σ F) : mNR g l (d + 6) 80 [.ref 0] lk ex σ (.int (qPar T F).1) (fun σ1 => fr 1 13 σ σ1 ∧ cF σ1 (qPar T F).2 ∧ cS σ1 (qPar T F).2 ∧ fOk (qPar T F).2 ∧ fle F (qPar T F).2 ∧ cI σ1 (0, T.2)) := by
  have ok : mOkP md_X8_parse := ok_at 80 (by decide) rfl
  refine mC_of (md := md_X8_parse) rfl (lt_at (by decide)) rfl ?_
  have fin : ∀ (τ : mHp) (f : Int32) (L2 : Option Value), frT σ τ → cF τ (qPar T F).2 → cS τ (qPar T F).2 → fOk (qPar T F).2 → fle F (qPar T F).2 → mGo g l (d + 6) md_X8_parse (SH lk ex).length (mTot (SH lk ex)) (35, [some (.ref 0), some (.int f), L2], [.int (qPar T F).1], SH lk ex, τ) (fun r sp σ1 => r = some (.int (qPar T F).1) ∧ sp = SH lk ex ∧ (fr 1 13 σ σ1 ∧ cF σ1 (qPar T F).2 ∧ cS σ1 (qPar T F).2 ∧ fOk (qPar T F).2 ∧ fle F (qPar T F).2 ∧ cI σ1 (0, T.2))) := by
    intro τ f L2 t a1 a2 a3 a4
    have t2 : fr 1 13 σ τ := fun i hi => t i (by omega) (by omega)
    refine mGo_run (n := 400) ok rfl ?_
    exact mGo_ret ok rfl trivial (⟨rfl, rfl, t2.WI (by omega) (by omega), cF_fr (lo := 8) (hi := 9) (fr.refl.WI (by omega) (by omega)) (by omega) a1, cS_fr (lo := 8) (hi := 9) (fr.refl.WI (by omega) (by omega)) (by omega) a2, a3, a4, by rw [WI_at, if_pos ⟨rfl, rfl⟩]; rfl, fun i hi => by simp at hi⟩)
  refine mGo_run (n := 400) ok rfl ?_
  refine mGo_callP ok rfl (by omega) (c_faultIn (d := d) hT hI) ?_
  cases e : AF T true 0 0 T.1 with
  | some f =>
    have hq : qPar T F = (-1000 - nI f, F) := by unfold qPar; rw [e]
    have hb := AF_le _ _ _ _ e
    rw [hq] at fin ⊢
    refine mGo_run (n := 400) ok rfl ?_
    refine mGo_if ok rfl (fun h1 => ?_) (fun h1 => ?_)
    · exact absurd h1 (nI_pos (by omega))
    · refine mGo_runS 35 (n := 400) ok rfl ?_
      exact fin σ _ none frT.refl hc hS hf fle.refl
  | none =>
    have hq : qPar T F = qB F (BF T 0 T.1 [] [] F) := by unfold qPar; rw [e]
    rw [hq] at fin ⊢
    refine mGo_run (n := 400) ok rfl ?_
    refine mGo_if ok rfl (fun h1 => ?_) (fun h1 => ?_)
    · refine mGo_run (n := 400) ok rfl ?_
      refine mGo_callR ok rfl (by omega) (c_build (d := d) hT hI (fun i hi => AF_cls _ _ _ _ e i (by omega) (by omega)) hf hc hS) (fun τ1 hτ1 => ?_)
      obtain ⟨t, a1, a2, a3, a4⟩ := hτ1
      exact fin τ1 _ none t a1 a2 a3 a4
    · exact absurd (by decide) h1
end T
