/-! the input buffer -/
abbrev aI : Type := Nat × (Nat → Int32)
def tOk (T : aI) : Prop := T.1 ≤ 40 ∧ ∀ i, i < T.1 → 0 ≤ T.2 i ∧ T.2 i ≤ 127
def cI (σ : mHp) (T : aI) : Prop := σ.1 8 1 = nI T.1 ∧ ∀ i, i < T.1 → σ.1 9 i = T.2 i
def mI (σ : mHp) (T : aI) : Prop := σ.1 48 6 = nI T.1 ∧ ∀ i, i < T.1 → σ.1 52 i = T.2 i
def qApp (T : aI) (v c : Int32) : Int32 × aI := if (0 ≤ v ∧ v ≤ 127) ∧ (1 ≤ c ∧ c ≤ 40) then (if T.1 + c.toNatClampNeg ≤ 40 then (nI (T.1 + c.toNatClampNeg), (T.1 + c.toNatClampNeg, fun i => if T.1 ≤ i then v else T.2 i)) else (-3, T)) else (-1, T)
theorem qApp_ok {T : aI} (h : tOk T) (v c : Int32) : tOk (qApp T v c).2 := by
  unfold qApp
  by_cases h1 : (0 ≤ v ∧ v ≤ 127) ∧ (1 ≤ c ∧ c ≤ 40)
  · rw [if_pos h1]
    by_cases h2 : T.1 + c.toNatClampNeg ≤ 40
    · rw [if_pos h2]
      refine ⟨h2, fun i hi => ?_⟩
      show 0 ≤ (if T.1 ≤ i then v else T.2 i) ∧ (if T.1 ≤ i then v else T.2 i) ≤ 127
      by_cases h3 : T.1 ≤ i
      · rw [if_pos h3]; exact h1.1
      · rw [if_neg h3]; exact h.2 i (by omega)
    · rw [if_neg h2]; exact h
  · rw [if_neg h1]; exact h
section T
variable {g : mG} {l : Launch} {d : Nat} {lk : Nat} {ex : mSh} {σ : mHp} {T : aI}
theorem c_add (hT : T.1 ≤ 40) (hc : cI σ T) (v : Int32) {k : Nat} (hk : k ≤ 40) : mNR g l d 30 [.ref 8, .int v, .int (nI k)] lk ex σ (.int (if T.1 + k ≤ 40 then 1 else 0)) (fun σ1 => if T.1 + k ≤ 40 then fr 8 10 σ σ1 ∧ cI σ1 (T.1 + k, fun i => if T.1 ≤ i then v else T.2 i) else σ1 = σ) := by
  have ok : mOkP md_X3_add := ok_at 30 (by decide) rfl
  refine mC_of (md := md_X3_add) rfl (lt_at (by decide)) rfl ?_
  have e40 : (40 : Int32) - nI T.1 = nI (40 - T.1) := by
    apply Int32.toInt_inj.mp
    rw [Int32.toInt_sub, nI_toInt (show 40 - T.1 < 2 ^ 31 by omega), nI_toInt (show T.1 < 2 ^ 31 by omega), show (40 : Int32).toInt = 40 by decide]
    rw [Int.bmod_eq_of_le (by omega) (by omega)]
    omega
  refine mGo_run (n := 400) ok rfl ?_
  refine mGo_if ok rfl (fun h => ?_) (fun h => ?_)
  · exact absurd h (nI_pos (by omega))
  · refine mGo_run (n := 400) ok rfl ?_
    rw [hc.1, e40]
    refine mGo_if ok rfl (fun h1 => ?_) (fun h1 => ?_)
    · have h2 : T.1 + k ≤ 40 := by
        have := (nI_leI (a := k) (b := 40 - T.1) (by omega) (by omega)).mp h1
        omega
      rw [if_pos h2]
      refine mGo_runS 30 (n := 400) ok rfl ?_
      rw [hc.1, nI_add]
      have loop : ∀ m i : Nat, T.1 + i + m = T.1 + k → ∀ τ : mHp, fr 8 10 σ τ → τ.1 8 = σ.1 8 → (∀ x, x < T.1 + i → τ.1 9 x = if T.1 ≤ x then v else T.2 x) → mGo g l d md_X3_add (SH lk ex).length (mTot (SH lk ex)) (30, [some (.ref 8), some (.int v), some (.int (nI k)), some (.int (nI (T.1 + k))), some (.int (nI (T.1 + i)))], [], SH lk ex, τ) (fun r sp σ1 => r = some (.int 1) ∧ sp = SH lk ex ∧ (if T.1 + k ≤ 40 then fr 8 10 σ σ1 ∧ cI σ1 (T.1 + k, fun i => if T.1 ≤ i then v else T.2 i) else σ1 = σ)) := by
        intro m
        induction m with
        | zero =>
          intro i hi τ ht h8 hv
          refine mGo_run (n := 400) ok rfl ?_
          refine mGo_if ok rfl (fun h3 => ?_) (fun h3 => ?_)
          · refine mGo_run (n := 400) ok rfl ?_
            refine mGo_ret ok rfl (Or.inr rfl) ⟨rfl, rfl, ?_⟩
            rw [if_pos h2]
            refine ⟨ht.WI (by decide) (by decide), ?_, fun x hx => ?_⟩
            · show (mWI τ 8 1 (nI (T.1 + k))).1 8 1 = _
              simp [WI_at]
            · show (mWI τ 8 1 (nI (T.1 + k))).1 9 x = _
              rw [WI_at, if_neg (by omega)]
              exact hv x (by have : x < T.1 + k := hx; omega)
          · exact absurd (nI_le (by omega) (by omega)) h3
        | succ m ih =>
          intro i hi τ ht h8 hv
          refine mGo_run (n := 400) ok rfl ?_
          refine mGo_if ok rfl (fun h3 => ?_) (fun h3 => ?_)
          · exact absurd h3 (nI_ge (by omega) (by omega))
          · refine mGo_run (n := 400) ok rfl ?_
            refine mGo_side ok rfl (nI_in (by omega) (by omega)) ?_
            rw [nI_clamp (by omega)]
            refine mGo_runS 30 (n := 400) ok rfl ?_
            rw [nI_1]
            refine ih (i + 1) (by omega) _ (ht.WI (by decide) (by decide)) ?_ (fun x hx => ?_)
            · rw [← h8]; rfl
            · rw [WI_at]
              by_cases e : x = T.1 + i
              · rw [if_pos ⟨rfl, e⟩, if_pos (by omega)]
              · rw [if_neg (fun z => e z.2)]
                exact hv x (by omega)
      exact loop k 0 (by omega) σ fr.refl rfl (fun x hx => by rw [if_neg (by omega)]; exact hc.2 x (by omega))
    · have h2 : ¬ T.1 + k ≤ 40 := fun z => h1 (nI_le (by omega) (by omega))
      rw [if_neg h2]
      refine mGo_run (n := 400) ok rfl ?_
      exact mGo_ret ok rfl (Or.inl rfl) (⟨rfl, rfl, by show (if T.1 + k ≤ 40 then _ else σ = σ); rw [if_neg h2]⟩)
theorem x_append (hT : T.1 ≤ 40) (hc : cI σ T) (v c : Int32) : mNR g l (d + 1) 78 [.ref 0, .int v, .int c] lk ex σ (.int (qApp T v c).1) (fun σ1 => fr 8 10 σ σ1 ∧ cI σ1 (qApp T v c).2) := by
  have ok : mOkP md_X8_append := ok_at 78 (by decide) rfl
  refine mC_of (md := md_X8_append) rfl (lt_at (by decide)) rfl ?_
  unfold qApp
  have bad : ¬ ((0 ≤ v ∧ v ≤ 127) ∧ (1 ≤ c ∧ c ≤ 40)) → mGo g l (d + 1) md_X8_append (SH lk ex).length (mTot (SH lk ex)) (21, [some (.ref 0), some (.int v), some (.int c)], [], SH lk ex, σ) (fun r sp σ1 => r = some (.int (if (0 ≤ v ∧ v ≤ 127) ∧ (1 ≤ c ∧ c ≤ 40) then (if T.1 + c.toNatClampNeg ≤ 40 then (nI (T.1 + c.toNatClampNeg), (T.1 + c.toNatClampNeg, fun i => if T.1 ≤ i then v else T.2 i)) else (-3, T)) else (-1, T)).1) ∧ sp = SH lk ex ∧ (fr 8 10 σ σ1 ∧ cI σ1 (if (0 ≤ v ∧ v ≤ 127) ∧ (1 ≤ c ∧ c ≤ 40) then (if T.1 + c.toNatClampNeg ≤ 40 then (nI (T.1 + c.toNatClampNeg), (T.1 + c.toNatClampNeg, fun i => if T.1 ≤ i then v else T.2 i)) else ((-3 : Int32), T)) else (-1, T)).2)) := by
    intro hb
    rw [if_neg hb]
    refine mGo_run (n := 400) ok rfl ?_
    exact mGo_ret ok rfl trivial (⟨rfl, rfl, fr.refl, hc⟩)
  refine mGo_run (n := 400) ok rfl ?_
  refine mGo_if ok rfl (fun h => ?_) (fun h => ?_)
  · exact bad (fun z => absurd h (Int32.not_lt.mpr z.1.1))
  · refine mGo_run (n := 400) ok rfl ?_
    refine mGo_if ok rfl (fun h1 => ?_) (fun h1 => ?_)
    · exact bad (fun z => absurd h1 (Int32.not_lt.mpr z.1.2))
    · refine mGo_run (n := 400) ok rfl ?_
      refine mGo_if ok rfl (fun h2 => ?_) (fun h2 => ?_)
      · exact bad (fun z => absurd h2 (Int32.not_lt.mpr z.2.1))
      · refine mGo_run (n := 400) ok rfl ?_
        refine mGo_if ok rfl (fun h3 => ?_) (fun h3 => ?_)
        · have hg : (0 ≤ v ∧ v ≤ 127) ∧ (1 ≤ c ∧ c ≤ 40) := ⟨⟨Int32.not_lt.mp h, Int32.not_lt.mp h1⟩, Int32.not_lt.mp h2, h3⟩
          rw [if_pos hg]
          obtain ⟨k, hk, rfl⟩ := nI_of2 (n := 40) (M := 40) (by decide) (fun z => absurd (Int32.lt_of_lt_of_le z (by decide : (0 : Int32) ≤ 1)) h2) h3
          rw [nI_clamp (by omega)]
          refine mGo_run (n := 400) ok rfl ?_
          refine mGo_callR ok rfl (by omega) (c_add (d := d) hT hc v hk) (fun σ1 hσ1 => ?_)
          refine mGo_run (n := 400) ok rfl ?_
          by_cases hr : T.1 + k ≤ 40
          · rw [if_pos hr] at hσ1
            rw [if_pos hr, if_pos hr]
            refine mGo_if ok rfl (fun h4 => ?_) (fun h4 => ?_)
            · exact absurd h4 (by decide)
            · refine mGo_run (n := 400) ok rfl ?_
              rw [hσ1.2.1]
              exact mGo_ret ok rfl trivial (⟨rfl, rfl, hσ1⟩)
          · rw [if_neg hr] at hσ1
            subst hσ1
            rw [if_neg hr, if_neg hr]
            refine mGo_if ok rfl (fun h4 => ?_) (fun h4 => ?_)
            · refine mGo_run (n := 400) ok rfl ?_
              exact mGo_ret ok rfl trivial (⟨rfl, rfl, fr.refl, hc⟩)
            · exact absurd rfl h4
        · exact bad (fun z => h3 z.2.2)
theorem x_clearInput (hc : cI σ T) : mNR g l d 79 [.ref 0] lk ex σ (.int (nI T.1)) (fun σ1 => fr 8 10 σ σ1 ∧ cI σ1 (0, T.2)) := by
  have ok : mOkP md_X8_clearInput := ok_at 79 (by decide) rfl
  refine mC_of (md := md_X8_clearInput) rfl (lt_at (by decide)) rfl ?_
  refine mGo_run (n := 400) ok rfl ?_
  rw [hc.1]
  exact mGo_ret ok rfl trivial (⟨rfl, rfl, fr.refl.WI (by decide) (by decide), by simp [WI_at]; rfl, fun i hi => absurd hi (Nat.not_lt_zero i)⟩)
theorem y_append (hT : T.1 ≤ 40) (hm : mI σ T) (v c : Int32) : mNR g l (d + 1) 124 [.ref 48, .int v, .int c] lk ex σ (.int (qApp T v c).1) (fun σ1 => (∀ i, i ≠ 48 → i ≠ 52 → σ1.1 i = σ.1 i) ∧ σ1.2 = σ.2 ∧ fm [6] σ σ1 ∧ mI σ1 (qApp T v c).2) := by
  have ok : mOkP md_X9_append := ok_at 124 (by decide) rfl
  refine mC_of (md := md_X9_append) rfl (lt_at (by decide)) rfl ?_
  unfold qApp
  have bad : ¬ ((0 ≤ v ∧ v ≤ 127) ∧ (1 ≤ c ∧ c ≤ 40)) → mGo g l (d + 1) md_X9_append (SH lk ex).length (mTot (SH lk ex)) (20, [some (.ref 48), some (.int v), some (.int c), none], [], SH lk ex, σ) (fun r sp σ1 => r = some (.int (if (0 ≤ v ∧ v ≤ 127) ∧ (1 ≤ c ∧ c ≤ 40) then (if T.1 + c.toNatClampNeg ≤ 40 then (nI (T.1 + c.toNatClampNeg), (T.1 + c.toNatClampNeg, fun i => if T.1 ≤ i then v else T.2 i)) else (-3, T)) else (-1, T)).1) ∧ sp = SH lk ex ∧ ((∀ i, i ≠ 48 → i ≠ 52 → σ1.1 i = σ.1 i) ∧ σ1.2 = σ.2 ∧ fm [6] σ σ1 ∧ mI σ1 (if (0 ≤ v ∧ v ≤ 127) ∧ (1 ≤ c ∧ c ≤ 40) then (if T.1 + c.toNatClampNeg ≤ 40 then (nI (T.1 + c.toNatClampNeg), (T.1 + c.toNatClampNeg, fun i => if T.1 ≤ i then v else T.2 i)) else ((-3 : Int32), T)) else (-1, T)).2)) := by
    intro hb
    rw [if_neg hb]
    refine mGo_run (n := 400) ok rfl ?_
    exact mGo_ret ok rfl trivial (⟨rfl, rfl, fun _ _ _ => rfl, rfl, fm.refl, hm⟩)
  refine mGo_run (n := 400) ok rfl ?_
  refine mGo_callP ok rfl (by omega) (m_isIn (d := d) v 0 127) ?_
  refine mGo_run (n := 400) ok rfl ?_
  refine mGo_if ok rfl (fun h => ?_) (fun h => ?_)
  · refine bad (fun z => ?_)
    rw [if_pos z.1] at h; exact absurd h (by decide)
  · have hv : 0 ≤ v ∧ v ≤ 127 := by
      by_cases z : 0 ≤ v ∧ v ≤ 127
      · exact z
      · rw [if_neg z] at h; exact absurd rfl h
    refine mGo_run (n := 400) ok rfl ?_
    refine mGo_callP ok rfl (by omega) (m_isIn (d := d) c 1 40) ?_
    refine mGo_run (n := 400) ok rfl ?_
    refine mGo_if ok rfl (fun h1 => ?_) (fun h1 => ?_)
    · refine bad (fun z => ?_)
      rw [if_pos z.2] at h1; exact absurd h1 (by decide)
    · have hcc : 1 ≤ c ∧ c ≤ 40 := by
        by_cases z : 1 ≤ c ∧ c ≤ 40
        · exact z
        · rw [if_neg z] at h1; exact absurd rfl h1
      rw [if_pos ⟨hv, hcc⟩]
      obtain ⟨k, hk, rfl⟩ := nI_of2 (n := 40) (M := 40) (by decide) (fun z => absurd (Int32.lt_of_lt_of_le z (by decide : (0 : Int32) ≤ 1)) (Int32.not_lt.mpr hcc.1)) hcc.2
      rw [nI_clamp (by omega)]
      refine mGo_run (n := 400) ok rfl ?_
      rw [hm.1, nI_add]
      refine mGo_if ok rfl (fun h2 => ?_) (fun h2 => ?_)
      · have hr : T.1 + k ≤ 40 := (nI_leI (a := T.1 + k) (b := 40) (by omega) (by omega)).mp h2
        rw [if_pos hr]
        refine mGo_runS 38 (n := 400) ok rfl ?_
        have loop : ∀ m i : Nat, i + m = k → ∀ τ : mHp, (∀ x, x ≠ 48 → x ≠ 52 → τ.1 x = σ.1 x) → τ.2 = σ.2 → fm [6] σ τ → mI τ (T.1 + i, fun x => if T.1 ≤ x then v else T.2 x) → mGo g l (d + 1) md_X9_append (SH lk ex).length (mTot (SH lk ex)) (38, [some (.ref 48), some (.int v), some (.int (nI k)), some (.int (nI i))], [], SH lk ex, τ) (fun r sp σ1 => r = some (.int (nI (T.1 + k))) ∧ sp = SH lk ex ∧ ((∀ i, i ≠ 48 → i ≠ 52 → σ1.1 i = σ.1 i) ∧ σ1.2 = σ.2 ∧ fm [6] σ σ1 ∧ mI σ1 (T.1 + k, fun i => if T.1 ≤ i then v else T.2 i))) := by
          intro m
          induction m with
          | zero =>
            intro i hi τ t1 t2 t3 t4
            have : i = k := by omega
            subst this
            refine mGo_run (n := 400) ok rfl ?_
            refine mGo_if ok rfl (fun h3 => ?_) (fun h3 => ?_)
            · refine mGo_run (n := 400) ok rfl ?_
              exact mGo_ret ok rfl trivial (⟨by rw [t4.1], rfl, t1, t2, t3, t4⟩)
            · exact absurd (nI_le (Nat.le_refl _) (by omega)) h3
          | succ m ih =>
            intro i hi τ t1 t2 t3 t4
            refine mGo_run (n := 400) ok rfl ?_
            refine mGo_if ok rfl (fun h3 => ?_) (fun h3 => ?_)
            · exact absurd h3 (nI_ge (by omega) (by omega))
            · refine mGo_run (n := 400) ok rfl ?_
              rw [t4.1]
              refine mGo_side ok rfl (nI_in (by show T.1 + i < 40; omega) (by omega)) ?_
              rw [nI_clamp (by show T.1 + i < 2 ^ 31; omega)]
              refine mGo_runS 38 (n := 400) ok rfl ?_
              rw [show (mWI τ 52 (T.1 + i) v).1 48 6 = nI (T.1 + i) from t4.1, nI_1, nI_1]
              refine ih (i + 1) (by omega) _ ?_ t2 ?_ ⟨by simp [WI_at]; rfl, fun x hx => ?_⟩
              · intro x h1 h2
                rw [← t1 x h1 h2]
                funext y
                rw [WI_at, WI_at, if_neg (by omega), if_neg (by omega)]
              · exact (t3.WI (fun z => absurd z (by decide))).WI (fun _ => by decide)
              · have hx : x < T.1 + (i + 1) := hx
                rw [WI_at, if_neg (by omega), WI_at]
                by_cases e : x = T.1 + i
                · rw [if_pos ⟨rfl, e⟩]
                  show v = if T.1 ≤ x then v else T.2 x
                  rw [if_pos (by omega)]
                · rw [if_neg (fun z => e z.2)]
                  exact t4.2 x (by show x < T.1 + i; omega)
        exact loop k 0 (by omega) σ (fun _ _ _ => rfl) rfl fm.refl ⟨hm.1, fun x hx => by
          show σ.1 52 x = if T.1 ≤ x then v else T.2 x
          have hx : x < T.1 + 0 := hx
          rw [if_neg (by omega)]
          exact hm.2 x (by omega)⟩
      · have hr : ¬ T.1 + k ≤ 40 := fun z => h2 (nI_le (a := T.1 + k) (b := 40) z (by omega))
        rw [if_neg hr]
        refine mGo_run (n := 400) ok rfl ?_
        exact mGo_ret ok rfl trivial (⟨rfl, rfl, fun _ _ _ => rfl, rfl, fm.refl, hm⟩)
theorem y_clearInput (hm : mI σ T) : mNR g l d 125 [.ref 48] lk ex σ (.int (nI T.1)) (fun σ1 => σ1 = mWI σ 48 6 0) := by
  have ok : mOkP md_X9_clearInput := ok_at 125 (by decide) rfl
  refine mC_of (md := md_X9_clearInput) rfl (lt_at (by decide)) rfl ?_
  refine mGo_run (n := 400) ok rfl ?_
  rw [hm.1]
  exact mGo_ret ok rfl trivial (⟨rfl, rfl, rfl⟩)
end T
