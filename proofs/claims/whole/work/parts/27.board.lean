/-! the class Board: a position is set up; replies -/
theorem sr4 (x : Int64) : (x.toUInt64 >>> ((4 : Int32).toInt64.toUInt64 &&& Int64.toUInt64 63)).toInt64 = srN x 4 := by
  apply tb_ext
  intro j hj
  rw [tb_srN]
  have e : ((4 : Int32).toInt64.toUInt64 &&& Int64.toUInt64 63) = 4 := by decide
  simp only [tb, e]
  show (x.toUInt64 >>> (4 : UInt64)).toBitVec.getLsbD j = _
  rw [UInt64.toBitVec_shiftRight]
  simp [Nat.add_comm]
/-- what setUp leaves: the position, its moves; the manner and the next position stay -/
def bS (σ σ1 : mHp) (b : Nat) (c o : Int64) (ms : List (Nat × Nat)) : Prop := fr b (b + 3) σ σ1 ∧ (∀ k, k ≠ 3 → σ1.1 b k = σ.1 b k) ∧ σ1.2.1 b 5 = c ∧ σ1.2.1 b 6 = o ∧ (∀ k, k ≠ 5 → k ≠ 6 → σ1.2.1 b k = σ.2.1 b k) ∧ bM σ1 b ms
section T
variable {g : mG} {l : Launch} {d : Nat} {lk : Nat} {ex : mSh} {σ : mHp} {F : aF}
set_option maxHeartbeats 1000000 in
theorem c_setUp18 (hf : fOk F) (hc : cF σ F) (c o : Int64) : mNV g l (d + 3) 1 [.ref 18, .long c, .long o] lk ex σ (fun σ1 => bS σ σ1 18 c o (mvs F c o)) := by
  have ok : mOkP md_X0_setUp := ok_at 1 (by decide) rfl
  refine mC_of (md := md_X0_setUp) rfl (lt_at (by decide)) rfl ?_
  have hn := hf.2.1
  have h4n := hf.1
  have len1 := fun m k => clM_len c o m k
  have len2 := fun m k => atM_len F c m k
  refine mGo_runS 21 (n := 400) ok rfl ?_
  have post2 : ∀ m k : Nat, k + m = aN F → 4 ≤ k → ∀ (τ : mHp) (pre : List (Nat × Nat)), frB 18 (mWI (mWL (mWL σ 18 5 c) 18 6 o) 18 3 0) τ → bM τ 18 pre → pre.length + 2 * m ≤ 112 → pre ++ atM F c k m = mvs F c o → mGo g l (d + 3) md_X0_setUp (SH lk ex).length (mTot (SH lk ex)) (85, [some (.ref 18), some (.long c), none, some (.long o), none, some (.long (srN c k)), none, some (.int (nI k))], [], SH lk ex, τ) (fun r sp σ1 => r = none ∧ sp = SH lk ex ∧ bS σ σ1 18 c o (mvs F c o)) := by
    intro m
    induction m with
    | zero =>
      intro k hk h4 τ pre ht hb hpl hp
      rw [show atM F c k 0 = [] from rfl, List.append_nil] at hp
      subst hp
      have hct := cF_fr (σ1 := τ) (lo := 18) (hi := 21) ((((fr.refl (σ := σ)).WL (by decide) (by decide)).WL (by decide) (by decide)).WI (by decide) (by decide) |>.trans ht.1) (Or.inl (by decide)) hc
      refine mGo_run (n := 400) ok rfl ?_
      rw [hct.1]
      refine mGo_if ok rfl (fun h => ?_) (fun h => ?_)
      · refine mGo_run (n := 400) ok rfl ?_
        refine mGo_ret ok rfl trivial ⟨rfl, rfl, (((fr.refl (σ := σ)).WL (by decide) (by decide)).WL (by decide) (by decide)).WI (by decide) (by decide) |>.trans ht.1, fun k hk => ?_, ?_, ?_, fun k h5 h6 => ?_, hb⟩
        · rw [ht.2.1 k hk, WI_at, if_neg (fun z => hk z.2)]; rfl
        · rw [ht.2.2]; show (mWL (mWL σ 18 5 c) 18 6 o).2.1 18 5 = c; simp [WL_at]
        · rw [ht.2.2]; show (mWL (mWL σ 18 5 c) 18 6 o).2.1 18 6 = o; simp [WL_at]
        · rw [ht.2.2]; show (mWL (mWL σ 18 5 c) 18 6 o).2.1 18 k = _; simp [WL_at, h5, h6]
      · exact absurd (nI_le (show aN F ≤ k by omega) (by omega)) h
    | succ m ih =>
      intro k hk h4 τ pre ht hb hpl hp
      have hfr := (((fr.refl (σ := σ)).WL (k := 5) (v := c) (i := 18) (lo := 18) (hi := 21) (by decide) (by decide)).WL (k := 6) (v := o) (i := 18) (by decide) (by decide)).WI (k := 3) (v := 0) (i := 18) (by decide) (by decide) |>.trans ht.1
      have hct := cF_fr hfr (Or.inl (by decide)) hc
      have hcl : τ.2.1 18 5 = c := by rw [ht.2.2]; show (mWL (mWL σ 18 5 c) 18 6 o).2.1 18 5 = c; simp [WL_at]
      have hkn : k < aN F := by omega
      refine mGo_run (n := 400) ok rfl ?_
      rw [hct.1]
      refine mGo_if ok rfl (fun h => ?_) (fun h => ?_)
      · exact absurd h (nI_ge hkn (by omega))
      · refine mGo_run (n := 400) ok rfl ?_
        refine mGo_if ok rfl (fun h1 => ?_) (fun h1 => ?_)
        · have hz := srN_zero (lg0.mp h1)
          have e : atM F c k (m + 1) = [] := atM_nil _ _ hz
          rw [e, List.append_nil] at hp
          subst hp
          refine mGo_run (n := 400) ok rfl ?_
          refine mGo_ret ok rfl trivial ⟨rfl, rfl, hfr, fun k hk => ?_, hcl, ?_, fun k h5 h6 => ?_, hb⟩
          · rw [ht.2.1 k hk, WI_at, if_neg (fun z => hk z.2)]; rfl
          · rw [ht.2.2]; show (mWL (mWL σ 18 5 c) 18 6 o).2.1 18 6 = o; simp [WL_at]
          · rw [ht.2.2]; show (mWL (mWL σ 18 5 c) 18 6 o).2.1 18 k = _; simp [WL_at, h5, h6]
        · have cont : ∀ (τ1 : mHp) (pre1 : List (Nat × Nat)), frB 18 τ τ1 → bM τ1 18 pre1 → pre1.length ≤ pre.length + 2 → pre1 ++ atM F c (k + 1) m = mvs F c o → mGo g l (d + 3) md_X0_setUp (SH lk ex).length (mTot (SH lk ex)) (119, [some (.ref 18), some (.long c), none, some (.long o), none, some (.long (srN c k)), none, some (.int (nI k))], [], SH lk ex, τ1) (fun r sp σ1 => r = none ∧ sp = SH lk ex ∧ bS σ σ1 18 c o (mvs F c o)) := by
            intro τ1 pre1 g1 g2 g3 g4
            refine mGo_runS 85 (n := 400) ok rfl ?_
            rw [nI_1]
            exact ih (k + 1) (by omega) (by omega) τ1 pre1 (ht.trans g1) g2 (by omega) g4
          refine mGo_run (n := 400) ok rfl ?_
          refine mGo_if ok rfl (fun h2 => ?_) (fun h2 => ?_)
          · have e : tb c k = false := by
              have := and_one0.mp (lg0.mp h2)
              rw [tb_srN] at this
              simpa using this
            simp only [atM, e] at hp
            exact cont τ pre frB.refl hb (by omega) (by simpa using hp)
          · have e : tb c k = true := by
              cases z : tb c k with
              | true => rfl
              | false => exact absurd (lg0.mpr (and_one0.mpr (by rw [tb_srN]; simpa using z))) h2
            simp only [atM, e, if_true] at hp
            refine mGo_run (n := 400) ok rfl ?_
            refine mGo_callV ok rfl (by omega) (c_addAttacks18 (d := d) hf hct hb hcl (by omega) h4 hkn) (fun σ1 hσ1 => ?_)
            have := atK_len F c k
            exact cont σ1 _ hσ1.1 hσ1.2 (by simp; omega) (by rw [List.append_assoc]; exact hp)
  have second : ∀ (τ : mHp) (pre : List (Nat × Nat)) (L5 L7 : Option Value), frB 18 (mWI (mWL (mWL σ 18 5 c) 18 6 o) 18 3 0) τ → bM τ 18 pre → pre = clM c o 0 (aN F) → mGo g l (d + 3) md_X0_setUp (SH lk ex).length (mTot (SH lk ex)) (77, [some (.ref 18), some (.long c), none, some (.long o), none, L5, none, L7], [], SH lk ex, τ) (fun r sp σ1 => r = none ∧ sp = SH lk ex ∧ bS σ σ1 18 c o (mvs F c o)) := by
    intro τ pre L5 L7 ht hb hp
    refine mGo_runS 85 (n := 400) ok rfl ?_
    rw [sr4]
    have := len1 (aN F) 0
    exact post2 (aN F - 4) 4 (by omega) (by omega) τ pre ht hb (by rw [hp]; omega) (by rw [hp]; rfl)
  have loop1 : ∀ m k : Nat, k + m = aN F → ∀ (τ : mHp) (pre : List (Nat × Nat)), frB 18 (mWI (mWL (mWL σ 18 5 c) 18 6 o) 18 3 0) τ → bM τ 18 pre → pre.length + m ≤ 40 → pre ++ clM c o k m = clM c o 0 (aN F) → mGo g l (d + 3) md_X0_setUp (SH lk ex).length (mTot (SH lk ex)) (21, [some (.ref 18), some (.long c), none, some (.long o), none, some (.long (srN o k)), none, some (.int (nI k))], [], SH lk ex, τ) (fun r sp σ1 => r = none ∧ sp = SH lk ex ∧ bS σ σ1 18 c o (mvs F c o)) := by
    intro m
    induction m with
    | zero =>
      intro k hk τ pre ht hb hpl hp
      rw [show clM c o k 0 = [] from rfl, List.append_nil] at hp
      have hfr := (((fr.refl (σ := σ)).WL (k := 5) (v := c) (i := 18) (lo := 18) (hi := 21) (by decide) (by decide)).WL (k := 6) (v := o) (i := 18) (by decide) (by decide)).WI (k := 3) (v := 0) (i := 18) (by decide) (by decide) |>.trans ht.1
      have hct := cF_fr hfr (Or.inl (by decide)) hc
      refine mGo_run (n := 400) ok rfl ?_
      rw [hct.1]
      refine mGo_if ok rfl (fun h => ?_) (fun h => ?_)
      · exact second τ pre _ _ ht hb hp
      · exact absurd (nI_le (show aN F ≤ k by omega) (by omega)) h
    | succ m ih =>
      intro k hk τ pre ht hb hpl hp
      have hfr := (((fr.refl (σ := σ)).WL (k := 5) (v := c) (i := 18) (lo := 18) (hi := 21) (by decide) (by decide)).WL (k := 6) (v := o) (i := 18) (by decide) (by decide)).WI (k := 3) (v := 0) (i := 18) (by decide) (by decide) |>.trans ht.1
      have hct := cF_fr hfr (Or.inl (by decide)) hc
      have hcl : τ.2.1 18 5 = c := by rw [ht.2.2]; show (mWL (mWL σ 18 5 c) 18 6 o).2.1 18 5 = c; simp [WL_at]
      refine mGo_run (n := 400) ok rfl ?_
      rw [hct.1]
      refine mGo_if ok rfl (fun h => ?_) (fun h => ?_)
      · exact absurd h (nI_ge (show k < aN F by omega) (by omega))
      · refine mGo_run (n := 400) ok rfl ?_
        refine mGo_if ok rfl (fun h1 => ?_) (fun h1 => ?_)
        · have e : clM c o k (m + 1) = [] := clM_nil _ _ (srN_zero (lg0.mp h1))
          rw [e, List.append_nil] at hp
          exact second τ pre _ _ ht hb hp
        · have cont : ∀ (τ1 : mHp) (pre1 : List (Nat × Nat)), frB 18 τ τ1 → bM τ1 18 pre1 → pre1.length ≤ pre.length + 1 → pre1 ++ clM c o (k + 1) m = clM c o 0 (aN F) → mGo g l (d + 3) md_X0_setUp (SH lk ex).length (mTot (SH lk ex)) (65, [some (.ref 18), some (.long c), none, some (.long o), none, some (.long (srN o k)), none, some (.int (nI k))], [], SH lk ex, τ1) (fun r sp σ1 => r = none ∧ sp = SH lk ex ∧ bS σ σ1 18 c o (mvs F c o)) := by
            intro τ1 pre1 g1 g2 g3 g4
            refine mGo_runS 21 (n := 400) ok rfl ?_
            rw [nI_1]
            exact ih (k + 1) (by omega) τ1 pre1 (ht.trans g1) g2 (by omega) g4
          refine mGo_run (n := 400) ok rfl ?_
          refine mGo_if ok rfl (fun h2 => ?_) (fun h2 => ?_)
          · have e : tb o k = false := by
              have := and_one0.mp (lg0.mp h2)
              rw [tb_srN] at this
              simpa using this
            simp only [clM, e] at hp
            exact cont τ pre frB.refl hb (by omega) (by simpa using hp)
          · have e : tb o k = true := by
              cases z : tb o k with
              | true => rfl
              | false => exact absurd (lg0.mpr (and_one0.mpr (by rw [tb_srN]; simpa using z))) h2
            refine mGo_run (n := 400) ok rfl ?_
            refine mGo_callP ok rfl (by omega) (c_canClaim18 (d := d) hcl (f := k) (by omega)) ?_
            refine mGo_run (n := 400) ok rfl ?_
            refine mGo_if ok rfl (fun h3 => ?_) (fun h3 => ?_)
            · have e3 : ¬ canC c k = true := fun z => by rw [if_pos z] at h3; exact absurd h3 (by decide)
              simp only [clM, e, e3] at hp
              exact cont τ pre frB.refl hb (by omega) (by simpa using hp)
            · have e3 : canC c k = true := by
                by_cases z : canC c k = true
                · exact z
                · rw [if_neg z] at h3; exact absurd rfl h3
              simp only [clM, e, e3] at hp
              refine mGo_run (n := 400) ok rfl ?_
              refine mGo_callV ok rfl (by omega) (c_addMove18 (d := d) hb (by omega) 0 k) (fun σ1 hσ1 => ?_)
              exact cont σ1 _ hσ1.1 hσ1.2 (by simp) (by rw [List.append_assoc]; simpa using hp)
  exact loop1 (aN F) 0 (by omega) _ [] frB.refl ⟨by simp [WI_at]; rfl, fun i q hq => by simp at hq⟩ (by simp; omega) rfl
set_option maxHeartbeats 1000000 in
theorem c_setUp28 (hf : fOk F) (hc : cF σ F) (c o : Int64) : mNV g l (d + 3) 1 [.ref 28, .long c, .long o] lk ex σ (fun σ1 => bS σ σ1 28 c o (mvs F c o)) := by
  have ok : mOkP md_X0_setUp := ok_at 1 (by decide) rfl
  refine mC_of (md := md_X0_setUp) rfl (lt_at (by decide)) rfl ?_
  have hn := hf.2.1
  have h4n := hf.1
  have len1 := fun m k => clM_len c o m k
  have len2 := fun m k => atM_len F c m k
  refine mGo_runS 21 (n := 400) ok rfl ?_
  have post2 : ∀ m k : Nat, k + m = aN F → 4 ≤ k → ∀ (τ : mHp) (pre : List (Nat × Nat)), frB 28 (mWI (mWL (mWL σ 28 5 c) 28 6 o) 28 3 0) τ → bM τ 28 pre → pre.length + 2 * m ≤ 112 → pre ++ atM F c k m = mvs F c o → mGo g l (d + 3) md_X0_setUp (SH lk ex).length (mTot (SH lk ex)) (85, [some (.ref 28), some (.long c), none, some (.long o), none, some (.long (srN c k)), none, some (.int (nI k))], [], SH lk ex, τ) (fun r sp σ1 => r = none ∧ sp = SH lk ex ∧ bS σ σ1 28 c o (mvs F c o)) := by
    intro m
    induction m with
    | zero =>
      intro k hk h4 τ pre ht hb hpl hp
      rw [show atM F c k 0 = [] from rfl, List.append_nil] at hp
      subst hp
      have hct := cF_fr (σ1 := τ) (lo := 28) (hi := 31) ((((fr.refl (σ := σ)).WL (by decide) (by decide)).WL (by decide) (by decide)).WI (by decide) (by decide) |>.trans ht.1) (Or.inl (by decide)) hc
      refine mGo_run (n := 400) ok rfl ?_
      rw [hct.1]
      refine mGo_if ok rfl (fun h => ?_) (fun h => ?_)
      · refine mGo_run (n := 400) ok rfl ?_
        refine mGo_ret ok rfl trivial ⟨rfl, rfl, (((fr.refl (σ := σ)).WL (by decide) (by decide)).WL (by decide) (by decide)).WI (by decide) (by decide) |>.trans ht.1, fun k hk => ?_, ?_, ?_, fun k h5 h6 => ?_, hb⟩
        · rw [ht.2.1 k hk, WI_at, if_neg (fun z => hk z.2)]; rfl
        · rw [ht.2.2]; show (mWL (mWL σ 28 5 c) 28 6 o).2.1 28 5 = c; simp [WL_at]
        · rw [ht.2.2]; show (mWL (mWL σ 28 5 c) 28 6 o).2.1 28 6 = o; simp [WL_at]
        · rw [ht.2.2]; show (mWL (mWL σ 28 5 c) 28 6 o).2.1 28 k = _; simp [WL_at, h5, h6]
      · exact absurd (nI_le (show aN F ≤ k by omega) (by omega)) h
    | succ m ih =>
      intro k hk h4 τ pre ht hb hpl hp
      have hfr := (((fr.refl (σ := σ)).WL (k := 5) (v := c) (i := 28) (lo := 28) (hi := 31) (by decide) (by decide)).WL (k := 6) (v := o) (i := 28) (by decide) (by decide)).WI (k := 3) (v := 0) (i := 28) (by decide) (by decide) |>.trans ht.1
      have hct := cF_fr hfr (Or.inl (by decide)) hc
      have hcl : τ.2.1 28 5 = c := by rw [ht.2.2]; show (mWL (mWL σ 28 5 c) 28 6 o).2.1 28 5 = c; simp [WL_at]
      have hkn : k < aN F := by omega
      refine mGo_run (n := 400) ok rfl ?_
      rw [hct.1]
      refine mGo_if ok rfl (fun h => ?_) (fun h => ?_)
      · exact absurd h (nI_ge hkn (by omega))
      · refine mGo_run (n := 400) ok rfl ?_
        refine mGo_if ok rfl (fun h1 => ?_) (fun h1 => ?_)
        · have hz := srN_zero (lg0.mp h1)
          have e : atM F c k (m + 1) = [] := atM_nil _ _ hz
          rw [e, List.append_nil] at hp
          subst hp
          refine mGo_run (n := 400) ok rfl ?_
          refine mGo_ret ok rfl trivial ⟨rfl, rfl, hfr, fun k hk => ?_, hcl, ?_, fun k h5 h6 => ?_, hb⟩
          · rw [ht.2.1 k hk, WI_at, if_neg (fun z => hk z.2)]; rfl
          · rw [ht.2.2]; show (mWL (mWL σ 28 5 c) 28 6 o).2.1 28 6 = o; simp [WL_at]
          · rw [ht.2.2]; show (mWL (mWL σ 28 5 c) 28 6 o).2.1 28 k = _; simp [WL_at, h5, h6]
        · have cont : ∀ (τ1 : mHp) (pre1 : List (Nat × Nat)), frB 28 τ τ1 → bM τ1 28 pre1 → pre1.length ≤ pre.length + 2 → pre1 ++ atM F c (k + 1) m = mvs F c o → mGo g l (d + 3) md_X0_setUp (SH lk ex).length (mTot (SH lk ex)) (119, [some (.ref 28), some (.long c), none, some (.long o), none, some (.long (srN c k)), none, some (.int (nI k))], [], SH lk ex, τ1) (fun r sp σ1 => r = none ∧ sp = SH lk ex ∧ bS σ σ1 28 c o (mvs F c o)) := by
            intro τ1 pre1 g1 g2 g3 g4
            refine mGo_runS 85 (n := 400) ok rfl ?_
            rw [nI_1]
            exact ih (k + 1) (by omega) (by omega) τ1 pre1 (ht.trans g1) g2 (by omega) g4
          refine mGo_run (n := 400) ok rfl ?_
          refine mGo_if ok rfl (fun h2 => ?_) (fun h2 => ?_)
          · have e : tb c k = false := by
              have := and_one0.mp (lg0.mp h2)
              rw [tb_srN] at this
              simpa using this
            simp only [atM, e] at hp
            exact cont τ pre frB.refl hb (by omega) (by simpa using hp)
          · have e : tb c k = true := by
              cases z : tb c k with
              | true => rfl
              | false => exact absurd (lg0.mpr (and_one0.mpr (by rw [tb_srN]; simpa using z))) h2
            simp only [atM, e, if_true] at hp
            refine mGo_run (n := 400) ok rfl ?_
            refine mGo_callV ok rfl (by omega) (c_addAttacks28 (d := d) hf hct hb hcl (by omega) h4 hkn) (fun σ1 hσ1 => ?_)
            have := atK_len F c k
            exact cont σ1 _ hσ1.1 hσ1.2 (by simp; omega) (by rw [List.append_assoc]; exact hp)
  have second : ∀ (τ : mHp) (pre : List (Nat × Nat)) (L5 L7 : Option Value), frB 28 (mWI (mWL (mWL σ 28 5 c) 28 6 o) 28 3 0) τ → bM τ 28 pre → pre = clM c o 0 (aN F) → mGo g l (d + 3) md_X0_setUp (SH lk ex).length (mTot (SH lk ex)) (77, [some (.ref 28), some (.long c), none, some (.long o), none, L5, none, L7], [], SH lk ex, τ) (fun r sp σ1 => r = none ∧ sp = SH lk ex ∧ bS σ σ1 28 c o (mvs F c o)) := by
    intro τ pre L5 L7 ht hb hp
    refine mGo_runS 85 (n := 400) ok rfl ?_
    rw [sr4]
    have := len1 (aN F) 0
    exact post2 (aN F - 4) 4 (by omega) (by omega) τ pre ht hb (by rw [hp]; omega) (by rw [hp]; rfl)
  have loop1 : ∀ m k : Nat, k + m = aN F → ∀ (τ : mHp) (pre : List (Nat × Nat)), frB 28 (mWI (mWL (mWL σ 28 5 c) 28 6 o) 28 3 0) τ → bM τ 28 pre → pre.length + m ≤ 40 → pre ++ clM c o k m = clM c o 0 (aN F) → mGo g l (d + 3) md_X0_setUp (SH lk ex).length (mTot (SH lk ex)) (21, [some (.ref 28), some (.long c), none, some (.long o), none, some (.long (srN o k)), none, some (.int (nI k))], [], SH lk ex, τ) (fun r sp σ1 => r = none ∧ sp = SH lk ex ∧ bS σ σ1 28 c o (mvs F c o)) := by
    intro m
    induction m with
    | zero =>
      intro k hk τ pre ht hb hpl hp
      rw [show clM c o k 0 = [] from rfl, List.append_nil] at hp
      have hfr := (((fr.refl (σ := σ)).WL (k := 5) (v := c) (i := 28) (lo := 28) (hi := 31) (by decide) (by decide)).WL (k := 6) (v := o) (i := 28) (by decide) (by decide)).WI (k := 3) (v := 0) (i := 28) (by decide) (by decide) |>.trans ht.1
      have hct := cF_fr hfr (Or.inl (by decide)) hc
      refine mGo_run (n := 400) ok rfl ?_
      rw [hct.1]
      refine mGo_if ok rfl (fun h => ?_) (fun h => ?_)
      · exact second τ pre _ _ ht hb hp
      · exact absurd (nI_le (show aN F ≤ k by omega) (by omega)) h
    | succ m ih =>
      intro k hk τ pre ht hb hpl hp
      have hfr := (((fr.refl (σ := σ)).WL (k := 5) (v := c) (i := 28) (lo := 28) (hi := 31) (by decide) (by decide)).WL (k := 6) (v := o) (i := 28) (by decide) (by decide)).WI (k := 3) (v := 0) (i := 28) (by decide) (by decide) |>.trans ht.1
      have hct := cF_fr hfr (Or.inl (by decide)) hc
      have hcl : τ.2.1 28 5 = c := by rw [ht.2.2]; show (mWL (mWL σ 28 5 c) 28 6 o).2.1 28 5 = c; simp [WL_at]
      refine mGo_run (n := 400) ok rfl ?_
      rw [hct.1]
      refine mGo_if ok rfl (fun h => ?_) (fun h => ?_)
      · exact absurd h (nI_ge (show k < aN F by omega) (by omega))
      · refine mGo_run (n := 400) ok rfl ?_
        refine mGo_if ok rfl (fun h1 => ?_) (fun h1 => ?_)
        · have e : clM c o k (m + 1) = [] := clM_nil _ _ (srN_zero (lg0.mp h1))
          rw [e, List.append_nil] at hp
          exact second τ pre _ _ ht hb hp
        · have cont : ∀ (τ1 : mHp) (pre1 : List (Nat × Nat)), frB 28 τ τ1 → bM τ1 28 pre1 → pre1.length ≤ pre.length + 1 → pre1 ++ clM c o (k + 1) m = clM c o 0 (aN F) → mGo g l (d + 3) md_X0_setUp (SH lk ex).length (mTot (SH lk ex)) (65, [some (.ref 28), some (.long c), none, some (.long o), none, some (.long (srN o k)), none, some (.int (nI k))], [], SH lk ex, τ1) (fun r sp σ1 => r = none ∧ sp = SH lk ex ∧ bS σ σ1 28 c o (mvs F c o)) := by
            intro τ1 pre1 g1 g2 g3 g4
            refine mGo_runS 21 (n := 400) ok rfl ?_
            rw [nI_1]
            exact ih (k + 1) (by omega) τ1 pre1 (ht.trans g1) g2 (by omega) g4
          refine mGo_run (n := 400) ok rfl ?_
          refine mGo_if ok rfl (fun h2 => ?_) (fun h2 => ?_)
          · have e : tb o k = false := by
              have := and_one0.mp (lg0.mp h2)
              rw [tb_srN] at this
              simpa using this
            simp only [clM, e] at hp
            exact cont τ pre frB.refl hb (by omega) (by simpa using hp)
          · have e : tb o k = true := by
              cases z : tb o k with
              | true => rfl
              | false => exact absurd (lg0.mpr (and_one0.mpr (by rw [tb_srN]; simpa using z))) h2
            refine mGo_run (n := 400) ok rfl ?_
            refine mGo_callP ok rfl (by omega) (c_canClaim28 (d := d) hcl (f := k) (by omega)) ?_
            refine mGo_run (n := 400) ok rfl ?_
            refine mGo_if ok rfl (fun h3 => ?_) (fun h3 => ?_)
            · have e3 : ¬ canC c k = true := fun z => by rw [if_pos z] at h3; exact absurd h3 (by decide)
              simp only [clM, e, e3] at hp
              exact cont τ pre frB.refl hb (by omega) (by simpa using hp)
            · have e3 : canC c k = true := by
                by_cases z : canC c k = true
                · exact z
                · rw [if_neg z] at h3; exact absurd rfl h3
              simp only [clM, e, e3] at hp
              refine mGo_run (n := 400) ok rfl ?_
              refine mGo_callV ok rfl (by omega) (c_addMove28 (d := d) hb (by omega) 0 k) (fun σ1 hσ1 => ?_)
              exact cont σ1 _ hσ1.1 hσ1.2 (by simp) (by rw [List.append_assoc]; simpa using hp)
  exact loop1 (aN F) 0 (by omega) _ [] frB.refl ⟨by simp [WI_at]; rfl, fun i q hq => by simp at hq⟩ (by simp; omega) rfl
end T
