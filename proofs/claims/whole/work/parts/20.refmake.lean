/-! the reference: formulas -/
def mF (σ : mHp) (F : aF) : Prop := σ.1 48 0 = nI (aN F) ∧ ∀ j, j < aN F → σ.1 49 j = nI (aK F j) ∧ σ.1 50 j = nI (aA F j) ∧ σ.1 51 j = nI (aB F j)
/-- of the reference's own numbers only those at the places ks have changed -/
def fm (ks : List Nat) (σ σ1 : mHp) : Prop := ∀ k, k ∉ ks → σ1.1 48 k = σ.1 48 k ∧ σ1.2.1 48 k = σ.2.1 48 k
theorem fm.refl {ks : List Nat} {σ : mHp} : fm ks σ σ := fun _ _ => ⟨rfl, rfl⟩
theorem fm.trans {ks : List Nat} {σ σ1 σ2 : mHp} (h1 : fm ks σ σ1) (h2 : fm ks σ1 σ2) : fm ks σ σ2 := fun k hk => ⟨(h2 k hk).1.trans (h1 k hk).1, (h2 k hk).2.trans (h1 k hk).2⟩
theorem fm.wide {ks ks2 : List Nat} {σ σ1 : mHp} (h : fm ks σ σ1) (h1 : ∀ k ∈ ks, k ∈ ks2) : fm ks2 σ σ1 := fun k hk => h k (fun q => hk (h1 k q))
theorem fm.WI {ks : List Nat} {i k : Nat} {v : Int32} {σ σ1 : mHp} (h : fm ks σ σ1) (h1 : i = 48 → k ∈ ks) : fm ks σ (mWI σ1 i k v) := fun j hj => by
  obtain ⟨a, b⟩ := h j hj
  refine ⟨?_, b⟩
  rw [WI_at, if_neg (fun z => hj (by rw [z.2]; exact h1 z.1.symm))]
  exact a
theorem fm.WL {ks : List Nat} {i k : Nat} {v : Int64} {σ σ1 : mHp} (h : fm ks σ σ1) (h1 : i = 48 → k ∈ ks) : fm ks σ (mWL σ1 i k v) := fun j hj => by
  obtain ⟨a, b⟩ := h j hj
  refine ⟨a, ?_⟩
  rw [WL_at, if_neg (fun z => hj (by rw [z.2]; exact h1 z.1.symm))]
  exact b
def bI (b : Bool) : Int32 := if b then 1 else 0
/-- the reference makes a formula: its number, the formulas, whether there was no room -/
def aMm (F : aF) (fl : Bool) (k a b : Nat) : Nat × aF × Bool := match fF F k a b with
  | some j => (j, F, fl)
  | none => if fl = true ∨ aN F = 40 then (0, F, true) else (aN F, (aN F + 1, up (aK F) (aN F) k, up (aA F) (aN F) a, up (aB F) (aN F) b), false)
theorem aMm_of {F : aF} (hf : fOk F) (k a b : Nat) : aMm F false k a b = (match (aMk F k a b).1 with
  | some j => (j, (aMk F k a b).2, false)
  | none => (0, F, true)) := by
  unfold aMm aMk
  cases fF F k a b with
  | some j => rfl
  | none =>
    have := hf.2.1
    by_cases h : aN F < 40
    · simp only [if_pos h]
      rw [if_neg (by rintro (z | z); cases z; omega)]
    · simp only [if_neg h]
      rw [if_pos (Or.inr (by omega))]
theorem aMm_full {F : aF} (k a b : Nat) : ∃ j, aMm F true k a b = (j, F, true) ∧ (4 ≤ aN F → j < aN F) := by
  unfold aMm
  cases h : fF F k a b with
  | some j => exact ⟨j, rfl, fun _ => by have := fnd_some h; omega⟩
  | none => exact ⟨0, by simp, fun _ => by omega⟩
theorem aMk_none {F : aF} {k a b : Nat} (h : (aMk F k a b).1 = none) : (aMk F k a b).2 = F := by
  unfold aMk at h ⊢
  cases hF : fF F k a b with
  | some j => rfl
  | none =>
    rw [hF] at h
    by_cases h1 : aN F < 40
    · simp [if_pos h1] at h
    · simp only [if_neg h1]
theorem mk_mF {σ : mHp} {F : aF} (hm : mF σ F) (k a b : Nat) : mF (mWI (mWI (mWI (mWI σ 49 (aN F) (nI k)) 50 (aN F) (nI a)) 51 (aN F) (nI b)) 48 0 (nI (aN F + 1))) (aN F + 1, up (aK F) (aN F) k, up (aA F) (aN F) a, up (aB F) (aN F) b) := by
  refine ⟨by simp only [WI_at, and_self, if_true], fun j hj => ?_⟩
  have hj : j < aN F + 1 := hj
  by_cases he : j = aN F
  · subst he
    refine ⟨?_, ?_, ?_⟩ <;> simp [aN_mk, aK_mk, aA_mk, aB_mk, WI_at, up]
  · obtain ⟨c1, c2, c3⟩ := hm.2 j (by omega)
    refine ⟨?_, ?_, ?_⟩ <;> simp [aN_mk, aK_mk, aA_mk, aB_mk, WI_at, up, he, c1, c2, c3]
section T
variable {g : mG} {l : Launch} {d : Nat} {lk : Nat} {ex : mSh} {σ : mHp} {F : aF}
theorem m_isIn (v lo hi : Int32) : mNP g l d 118 [.int v, .int lo, .int hi] lk ex σ (.int (if lo ≤ v ∧ v ≤ hi then 1 else 0)) := by
  have ok : mOkP md_X9_isIn := ok_at 118 (by decide) rfl
  refine mC_of (md := md_X9_isIn) rfl (lt_at (by decide)) rfl ?_
  refine mGo_run (n := 400) ok rfl ?_
  refine mGo_if ok rfl (fun h => ?_) (fun h => ?_)
  · refine mGo_run (n := 400) ok rfl ?_
    rw [if_neg (fun q => absurd h (Int32.not_lt.mpr q.1))]
    exact mGo_ret ok rfl (Or.inl rfl) (⟨rfl, rfl, rfl⟩)
  · refine mGo_run (n := 400) ok rfl ?_
    refine mGo_if ok rfl (fun h1 => ?_) (fun h1 => ?_)
    · refine mGo_run (n := 400) ok rfl ?_
      rw [if_neg (fun q => absurd h1 (Int32.not_lt.mpr q.2))]
      exact mGo_ret ok rfl (Or.inl rfl) (⟨rfl, rfl, rfl⟩)
    · refine mGo_run (n := 400) ok rfl ?_
      rw [if_pos ⟨Int32.not_lt.mp h, Int32.not_lt.mp h1⟩]
      exact mGo_ret ok rfl (Or.inr rfl) (⟨rfl, rfl, rfl⟩)
theorem i_le1 {f : Int32} {n : Nat} (h0 : 1 ≤ n) (hn : n < 2 ^ 31) : f ≤ nI n - 1 ↔ f < nI n := by
  have e : nI n - 1 = nI (n - 1) := by
    have := nI_pred (n - 1)
    rw [show n - 1 + 1 = n by omega] at this
    exact this
  rw [e, Int32.le_iff_toInt_le, Int32.lt_iff_toInt_lt, nI_toInt (by omega), nI_toInt hn]
  omega
/-- is it the number of a formula -/
theorem m_isFormula (hm : σ.1 48 0 = nI (aN F)) (h4 : 4 ≤ aN F) (hn : aN F ≤ 40) (f : Int32) : mNP g l (d + 1) 119 [.ref 48, .int f] lk ex σ (.int (if 0 ≤ f ∧ f < nI (aN F) then 1 else 0)) := by
  have ok : mOkP md_X9_isFormula := ok_at 119 (by decide) rfl
  refine mC_of (md := md_X9_isFormula) rfl (lt_at (by decide)) rfl ?_
  refine mGo_run (n := 400) ok rfl ?_
  refine mGo_callP ok rfl (by omega) (m_isIn (d := d) f 0 (σ.1 48 0 - 1)) ?_
  refine mGo_run (n := 400) ok rfl ?_
  rw [hm]
  have e : (if 0 ≤ f ∧ f ≤ nI (aN F) - 1 then (1 : Int32) else 0) = if 0 ≤ f ∧ f < nI (aN F) then 1 else 0 := by
    simp only [i_le1 (n := aN F) (f := f) (by omega) (by omega)]
  rw [e]
  exact mGo_ret ok rfl (b01 _) (⟨rfl, rfl, rfl⟩)
theorem m_isFormula1 (hm : σ.1 48 0 = nI (aN F)) (h4 : 4 ≤ aN F) (hn : aN F ≤ 40) {j : Nat} (hj : j < aN F) : mNP g l (d + 1) 119 [.ref 48, .int (nI j)] lk ex σ (.int 1) := by
  have h := m_isFormula (g := g) (l := l) (d := d) (lk := lk) (ex := ex) hm h4 hn (nI j)
  rw [if_pos ((i_in (by omega)).mpr ⟨j, hj, rfl⟩)] at h
  exact h
theorem m_isFormula0 (hm : σ.1 48 0 = nI (aN F)) (h4 : 4 ≤ aN F) (hn : aN F ≤ 40) {f : Int32} (hf : ¬ ∃ j, j < aN F ∧ f = nI j) : mNP g l (d + 1) 119 [.ref 48, .int f] lk ex σ (.int 0) := by
  have h := m_isFormula (g := g) (l := l) (d := d) (lk := lk) (ex := ex) hm h4 hn f
  rw [if_neg (fun q => hf ((i_in (by omega)).mp q))] at h
  exact h
theorem m_make (hf : fOk F) (hm : mF σ F) {fl : Bool} (hfl : σ.1 48 4 = bI fl) {k a b : Nat} (hk : 1 ≤ k ∧ k ≤ 4) (ha : a < aN F) (hb : b < aN F) : mNR g l d 120 [.ref 48, .int (nI k), .int (nI a), .int (nI b)] lk ex σ (.int (nI (aMm F fl k a b).1)) (fun σ1 => fr 48 52 σ σ1 ∧ fm [0, 4] σ σ1 ∧ mF σ1 (aMm F fl k a b).2.1 ∧ σ1.1 48 4 = bI (aMm F fl k a b).2.2) := by
  obtain ⟨h4, h40, hw⟩ := id hf
  have ok : mOkP md_X9_make := ok_at 120 (by decide) rfl
  refine mC_of (md := md_X9_make) rfl (lt_at (by decide)) rfl ?_
  refine mGo_runS 3 (n := 400) ok rfl ?_
  have loop : ∀ m i : Nat, i + m = aN F → 4 ≤ i → fnd (fun j => aK F j = k ∧ aA F j = a ∧ aB F j = b) i m = fF F k a b → mGo g l d md_X9_make (SH lk ex).length (mTot (SH lk ex)) (3, [some (.ref 48), some (.int (nI k)), some (.int (nI a)), some (.int (nI b)), some (.int (nI i))], [], SH lk ex, σ) (fun r sp σ1 => r = some (.int (nI (aMm F fl k a b).1)) ∧ sp = SH lk ex ∧ (fr 48 52 σ σ1 ∧ fm [0, 4] σ σ1 ∧ mF σ1 (aMm F fl k a b).2.1 ∧ σ1.1 48 4 = bI (aMm F fl k a b).2.2)) := by
    intro m
    induction m with
    | zero =>
      intro i hi h4i hF
      have hF : fF F k a b = none := hF.symm
      have full : fl = true ∨ aN F = 40 → mGo g l d md_X9_make (SH lk ex).length (mTot (SH lk ex)) (70, [some (.ref 48), some (.int (nI k)), some (.int (nI a)), some (.int (nI b)), some (.int (nI i))], [], SH lk ex, σ) (fun r sp σ1 => r = some (.int (nI (aMm F fl k a b).1)) ∧ sp = SH lk ex ∧ (fr 48 52 σ σ1 ∧ fm [0, 4] σ σ1 ∧ mF σ1 (aMm F fl k a b).2.1 ∧ σ1.1 48 4 = bI (aMm F fl k a b).2.2)) := by
        intro hfull
        have e : aMm F fl k a b = (0, F, true) := by unfold aMm; rw [hF]; simp only [if_pos hfull]
        rw [e]
        refine mGo_run (n := 400) ok rfl ?_
        refine mGo_side ok rfl (Or.inr rfl) ?_
        refine mGo_run (n := 400) ok rfl ?_
        exact mGo_ret ok rfl trivial (⟨rfl, rfl, fr.refl.WI (by decide) (by decide), fm.refl.WI (fun _ => by decide), ⟨by simp [WI_at, hm.1], fun j hj => by simpa [WI_at] using hm.2 j hj⟩, by simp [WI_at, bI]⟩)
      refine mGo_run (n := 400) ok rfl ?_
      refine mGo_if ok rfl (fun h => ?_) (fun h => ?_)
      · refine mGo_run (n := 400) ok rfl ?_
        refine mGo_if ok rfl (fun h1 => ?_) (fun h1 => ?_)
        · have hfl0 : fl = false := by
            cases fl with
            | false => rfl
            | true => rw [hfl] at h1; exact absurd h1 (by decide)
          refine mGo_run (n := 400) ok rfl ?_
          refine mGo_if ok rfl (fun h2 => ?_) (fun h2 => ?_)
          · rw [hm.1] at h2
            exact full (Or.inr ((nI_eq (a := aN F) (b := 40) (by omega) (by omega)).mp h2))
          · rw [hm.1] at h2
            have hn : aN F ≠ 40 := fun z => h2 (by rw [z]; rfl)
            have e : aMm F fl k a b = (aN F, (aN F + 1, up (aK F) (aN F) k, up (aA F) (aN F) a, up (aB F) (aN F) b), false) := by
              unfold aMm; rw [hF]; simp only
              rw [if_neg (by rintro (z | z); rw [hfl0] at z; cases z; exact hn z)]
            have cn : (nI (aN F)).toNatClampNeg = aN F := nI_clamp (by omega)
            have hin : vp_in (nI (aN F)) 40 := nI_in (by omega) (by omega)
            rw [e]
            refine mGo_run (n := 400) ok rfl ?_
            rw [hm.1]
            refine mGo_side ok rfl (hin) ?_
            rw [cn]
            refine mGo_run (n := 400) ok rfl ?_
            rw [show (mWI σ 49 (aN F) (nI k)).1 48 0 = nI (aN F) from hm.1]
            refine mGo_side ok rfl (hin) ?_
            rw [cn]
            refine mGo_run (n := 400) ok rfl ?_
            rw [show (mWI (mWI σ 49 (aN F) (nI k)) 50 (aN F) (nI a)).1 48 0 = nI (aN F) from hm.1]
            refine mGo_side ok rfl (hin) ?_
            rw [cn]
            refine mGo_run (n := 400) ok rfl ?_
            rw [show (mWI (mWI (mWI σ 49 (aN F) (nI k)) 50 (aN F) (nI a)) 51 (aN F) (nI b)).1 48 0 = nI (aN F) from hm.1, nI_1]
            exact mGo_ret ok rfl trivial (⟨by simp only [WI_at, and_self, if_true]; rw [nI_pred], rfl, ((((fr.refl.WI (by decide) (by decide)).WI (by decide) (by decide)).WI (by decide) (by decide)).WI (by decide) (by decide)), ((((fm.refl.WI (fun z => absurd z (by decide))).WI (fun z => absurd z (by decide))).WI (fun z => absurd z (by decide))).WI (fun _ => by decide)), mk_mF hm k a b, by simp [WI_at, hfl, hfl0]⟩)
        · have hfl1 : fl = true := by
            cases fl with
            | true => rfl
            | false => rw [hfl] at h1; exact absurd (by decide) h1
          exact full (Or.inl hfl1)
      · rw [hm.1] at h
        exact absurd (nI_le (show aN F ≤ i by omega) (by omega)) h
    | succ m ih =>
      intro i hi h4i hF
      have hin : i < aN F := by omega
      obtain ⟨w1, w2, w3, w4, w5, w6⟩ := hw i hin
      obtain ⟨c1, c2, c3⟩ := hm.2 i hin
      have hAb : aA F i < 40 := by
        by_cases z : aK F i = 0
        · rw [w6 z]; omega
        · have := w3 z; omega
      have hBb : aB F i < 40 := by
        by_cases z : aK F i < 2
        · rw [w5 z]; omega
        · have := w4 (by omega); omega
      have next : ¬ (aK F i = k ∧ aA F i = a ∧ aB F i = b) → mGo g l d md_X9_make (SH lk ex).length (mTot (SH lk ex)) (3, [some (.ref 48), some (.int (nI k)), some (.int (nI a)), some (.int (nI b)), some (.int (nI (i + 1)))], [], SH lk ex, σ) (fun r sp σ1 => r = some (.int (nI (aMm F fl k a b).1)) ∧ sp = SH lk ex ∧ (fr 48 52 σ σ1 ∧ fm [0, 4] σ σ1 ∧ mF σ1 (aMm F fl k a b).2.1 ∧ σ1.1 48 4 = bI (aMm F fl k a b).2.2)) := by
        intro hne
        simp only [fnd, if_neg hne] at hF
        exact ih (i + 1) (by omega) (by omega) hF
      refine mGo_run (n := 400) ok rfl ?_
      refine mGo_if ok rfl (fun h => ?_) (fun h => ?_)
      · rw [hm.1] at h
        exact absurd h (nI_ge hin (by omega))
      · refine mGo_run (n := 400) ok rfl ?_
        refine mGo_side ok rfl (nI_in (by omega) (by omega)) ?_
        refine mGo_run (n := 400) ok rfl ?_
        refine mGo_if ok rfl (fun h1 => ?_) (fun h1 => ?_)
        · rw [nI_clamp (by omega), c1, nI_eq (by omega) (by omega)] at h1
          refine mGo_run (n := 400) ok rfl ?_
          refine mGo_side ok rfl (nI_in (by omega) (by omega)) ?_
          refine mGo_run (n := 400) ok rfl ?_
          refine mGo_if ok rfl (fun h2 => ?_) (fun h2 => ?_)
          · rw [nI_clamp (by omega), c2, nI_eq (by omega) (by omega)] at h2
            refine mGo_run (n := 400) ok rfl ?_
            refine mGo_side ok rfl (nI_in (by omega) (by omega)) ?_
            refine mGo_run (n := 400) ok rfl ?_
            refine mGo_if ok rfl (fun h3 => ?_) (fun h3 => ?_)
            · rw [nI_clamp (by omega), c3, nI_eq (by omega) (by omega)] at h3
              simp only [fnd, if_pos (show aK F i = k ∧ aA F i = a ∧ aB F i = b from ⟨h1, h2, h3⟩)] at hF
              have e : aMm F fl k a b = (i, F, fl) := by unfold aMm; rw [← hF]
              rw [e]
              refine mGo_run (n := 400) ok rfl ?_
              exact mGo_ret ok rfl trivial (⟨rfl, rfl, fr.refl, fm.refl, hm, hfl⟩)
            · refine mGo_runS 3 (n := 400) ok rfl ?_
              rw [nI_1]
              refine next (fun z => h3 ?_)
              rw [nI_clamp (by omega), c3, z.2.2]
          · refine mGo_runS 3 (n := 400) ok rfl ?_
            rw [nI_1]
            refine next (fun z => h2 ?_)
            rw [nI_clamp (by omega), c2, z.2.1]
        · refine mGo_runS 3 (n := 400) ok rfl ?_
          rw [nI_1]
          refine next (fun z => h1 ?_)
          rw [nI_clamp (by omega), c1, z.1]
  exact loop (aN F - 4) 4 (by omega) (by omega) rfl
theorem m_settled {fl : Bool} (hfl : σ.1 48 4 = bI fl) (x y : Int32) : mNR g l d 121 [.ref 48, .int x, .int y] lk ex σ (.int (if fl then -3 else y)) (fun σ1 => σ1 = if fl then mWI σ 48 0 x else σ) := by
  have ok : mOkP md_X9_settled := ok_at 121 (by decide) rfl
  refine mC_of (md := md_X9_settled) rfl (lt_at (by decide)) rfl ?_
  refine mGo_run (n := 400) ok rfl ?_
  refine mGo_if ok rfl (fun h => ?_) (fun h => ?_)
  · have e : fl = false := by
      cases fl with
      | false => rfl
      | true => rw [hfl] at h; exact absurd h (by decide)
    subst e
    refine mGo_run (n := 400) ok rfl ?_
    exact mGo_ret ok rfl trivial (⟨rfl, rfl, rfl⟩)
  · have e : fl = true := by
      cases fl with
      | true => rfl
      | false => rw [hfl] at h; exact absurd (by decide) h
    subst e
    refine mGo_run (n := 400) ok rfl ?_
    exact mGo_ret ok rfl trivial (⟨rfl, rfl, rfl⟩)
theorem m_not (hf : fOk F) (hm : mF σ F) {fl : Bool} (hfl : σ.1 48 4 = bI fl) {a : Nat} (ha : a < aN F) : mNR g l (d + 1) 145 [.ref 48, .int (nI a)] lk ex σ (.int (nI (aMm F fl 1 a 0).1)) (fun σ1 => fr 48 52 σ σ1 ∧ fm [0, 4] σ σ1 ∧ mF σ1 (aMm F fl 1 a 0).2.1 ∧ σ1.1 48 4 = bI (aMm F fl 1 a 0).2.2) := by
  have ok : mOkP md_X9_not := ok_at 145 (by decide) rfl
  refine mC_of (md := md_X9_not) rfl (lt_at (by decide)) rfl ?_
  refine mGo_run (n := 400) ok rfl ?_
  refine mGo_callR ok rfl (by omega) (m_make (d := d) (k := 1) (b := 0) hf hm hfl (by omega) ha (by have := hf.1; omega)) (fun σ1 hσ1 => ?_)
  refine mGo_run (n := 400) ok rfl ?_
  exact mGo_ret ok rfl trivial (⟨rfl, rfl, hσ1⟩)
end T
