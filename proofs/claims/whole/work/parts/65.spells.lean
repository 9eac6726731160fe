/-! words: the class's texts and the reference's letters -/
section MG
variable {g : mG} {l : Launch} {d : Nat} {md : mMd} {n0 t0 : Nat} {Post : Option Value → mSh → mHp → Prop}
theorem mAl_old (h x : Nat) : mAl h (1000000 + x) = x := by
  unfold mAl
  rw [if_neg (by omega)]
  omega
theorem mGo_slen {pc np b cc i k : Nat} {v : Int32} {w : Int64} {L : mLs} {t : List Value} {sp : mSh} {σ : mHp} (hok : mOkP md) (hr : mIn md.2.2.2.2.2 pc = some (.invokevirtual i, np, 1001, b, cc, v, w)) (hlink : Cond.methodLink (mCn md.2.1) i yJ0_length_8abf5 ∈ mTB) (hk : k < 5) (hd : 2 ≤ d) (hcs : mCs t ≤ 8) (K : mGo g l d md n0 t0 (np, L, .int (nI (mSl.getD k 0)) :: t, sp, σ) Post) : mGo g l d md n0 t0 (pc, L, .ref (1000000 + mGs g k) :: t, sp, σ) Post := by
  obtain ⟨hd0, -, hx0⟩ := mRow_ok hok.1 hr
  have e1 : np = pc + 3 := by
    simp only [mRx, Bool.and_eq_true, decide_eq_true_eq] at hx0
    exact hx0.1
  subst e1
  obtain ⟨r, sp2, σ2, a1, a2, a3, a4⟩ := K
  have a1 : sp.length ≤ sp2.length := a1
  have a2 : mTot sp ≤ mTot sp2 := a2
  refine ⟨r, sp2, σ2, a1, a2, a3, fun p e R s m args below meth c hX b1 b2 b3 b4 => ?_⟩
  intro hn ht H locs ls hP hS hl
  obtain ⟨adV, hT⟩ := sTh.of hX.2.2.2.2.2.1.2.2.2.2 hX.2.2.2.2.2.2.2.2.2.1
  have hfix : CallFix p m c md.2.2.1 md.2.2.2.1 s args mTB (mCn md.2.1) := ⟨hX.1, hX.2.1, hX.2.2.1, hX.2.2.2.1, hX.2.2.2.2.1⟩
  refine sCallV (n := 0) (As := []) (rest := t.map (mE (mGh g))) hfix hT hS hk rfl (s_length hk) (sW 0 rfl) hlink (sW 27 rfl) (sW 28 rfl) (sW 5 rfl) (by decide) (by omega) (by omega) (by decide) rfl hl.2.1 (by
    show Value.ref (mAl (mGh g) (1000000 + mGs g k)) :: t.map (mE (mGh g)) = _
    rw [mAl_old]; rfl) (by rw [mCs_eq]; exact hcs) (mDec hd0 rfl) ⟨by show sp.length - n0 ≤ R.cells; omega, by show mTot sp - t0 ≤ R.slots; omega⟩ (fun H1 locs1 eH hS1 => ?_)
  subst eH
  exact a4 p e R s m args below meth c hX b1 b2 b3 b4 hn ht H1 locs1 ls hP hS1 hl
theorem mGo_schr {pc np b cc i k j : Nat} {v : Int32} {w : Int64} {L : mLs} {t : List Value} {sp : mSh} {σ : mHp} (hok : mOkP md) (hr : mIn md.2.2.2.2.2 pc = some (.invokevirtual i, np, 1002, b, cc, v, w)) (hlink : Cond.methodLink (mCn md.2.1) i yJ0_charAt_5068e ∈ mTB) (hk : k < 5) (hj : j < mSl.getD k 0) (hd : 4 ≤ d) (hcs : mCs t ≤ 8) (K : mGo g l d md n0 t0 (np, L, .int ((mSb.getD k []).getD j 0) :: t, sp, σ) Post) : mGo g l d md n0 t0 (pc, L, .int (nI j) :: .ref (1000000 + mGs g k) :: t, sp, σ) Post := by
  obtain ⟨hd0, -, hx0⟩ := mRow_ok hok.1 hr
  have e1 : np = pc + 3 := by
    simp only [mRx, Bool.and_eq_true, decide_eq_true_eq] at hx0
    exact hx0.1
  subst e1
  obtain ⟨r, sp2, σ2, a1, a2, a3, a4⟩ := K
  have a1 : sp.length ≤ sp2.length := a1
  have a2 : mTot sp ≤ mTot sp2 := a2
  refine ⟨r, sp2, σ2, a1, a2, a3, fun p e R s m args below meth c hX b1 b2 b3 b4 => ?_⟩
  intro hn ht H locs ls hP hS hl
  obtain ⟨adV, hT⟩ := sTh.of hX.2.2.2.2.2.1.2.2.2.2 hX.2.2.2.2.2.2.2.2.2.1
  have hfix : CallFix p m c md.2.2.1 md.2.2.2.1 s args mTB (mCn md.2.1) := ⟨hX.1, hX.2.1, hX.2.2.1, hX.2.2.2.1, hX.2.2.2.2.1⟩
  refine sCallV (n := 1) (As := [.int (nI j)]) (rest := t.map (mE (mGh g))) hfix hT hS hk rfl (s_charAt hk hj) (sW 9 rfl) hlink (sW 30 rfl) (sW 31 rfl) (sW 5 rfl) (by decide) (by omega) (by omega) (by decide) rfl hl.2.1 (by
    show Value.int (nI j) :: Value.ref (mAl (mGh g) (1000000 + mGs g k)) :: t.map (mE (mGh g)) = _
    rw [mAl_old]; rfl) (by rw [mCs_eq]; exact hcs) (mDec hd0 rfl) ⟨by show sp.length - n0 ≤ R.cells; omega, by show mTot sp - t0 ≤ R.slots; omega⟩ (fun H1 locs1 eH hS1 => ?_)
  subst eH
  exact a4 p e R s m args below meth c hX b1 b2 b3 b4 hn ht H1 locs1 ls hP hS1 hl
end MG
/-- the text is the word i -/
def spP (T : aI) (i : Nat) : Prop := T.1 = mSl.getD i 0 ∧ ∀ k, k < T.1 → T.2 k = (mSb.getD i []).getD k 0
def spB (T : aI) (i : Nat) : Bool := Nat.beq T.1 (mSl.getD i 0) && (List.range T.1).all (fun k => decide (T.2 k = (mSb.getD i []).getD k 0))
theorem spB_t {T : aI} {i : Nat} : spB T i = true ↔ spP T i := by
  unfold spB spP
  simp [List.all_eq_true]
/-- which word it is: its number plus 1, or 0 -/
def qWd (T : aI) : Nat := if spB T 0 = true then 1 else if spB T 1 = true then 2 else if spB T 2 = true then 3 else if spB T 3 = true then 4 else if spB T 4 = true then 5 else 0
section T
variable {g : mG} {l : Launch} {d : Nat} {lk : Nat} {ex : mSh} {σ : mHp} {T : aI}
theorem c_spells (hT : T.1 ≤ 40) (hc : cI σ T) {i : Nat} (hi : i < 5) : mNP g l (d + 4) 32 [.ref 8, .ref (1000000 + mGs g i)] lk ex σ (.int (bI (spB T i))) := by
  have hlen : mSl.getD i 0 < 41 := by
    match i, hi with
    | 0, _ => decide
    | 1, _ => decide
    | 2, _ => decide
    | 3, _ => decide
    | 4, _ => decide
    | n + 5, h => omega
  have ok : mOkP md_X3_spells := ok_at 32 (by decide) rfl
  refine mC_of (md := md_X3_spells) rfl (lt_at (by decide)) rfl ?_
  refine mGo_run (n := 400) ok rfl ?_
  refine mGo_slen ok rfl (sW 26 rfl) hi (by omega) (by decide) ?_
  refine mGo_run (n := 400) ok rfl ?_
  rw [hc.1]
  refine mGo_ifI ok rfl (nI_eq (a := mSl.getD i 0) (b := T.1) (by omega) (by omega)) (fun h1 => ?_) (fun h1 => ?_)
  · refine mGo_runS 15 (n := 400) ok rfl ?_
    have loop : ∀ m k, k + m = T.1 → (∀ j, j < k → T.2 j = (mSb.getD i []).getD j 0) → mGo g l (d + 4) md_X3_spells (SH lk ex).length (mTot (SH lk ex)) (15, [some (.ref 8), some (.ref (1000000 + mGs g i)), some (.int (nI k))], [], SH lk ex, σ) (fun r sp σ1 => r = some (.int (bI (spB T i))) ∧ sp = SH lk ex ∧ σ1 = σ) := by
      intro m
      induction m with
      | zero =>
        intro k hk hb
        have e : spB T i = true := spB_t.mpr ⟨h1.symm, fun j hj => hb j (by omega)⟩
        refine mGo_run (n := 400) ok rfl ?_
        rw [hc.1, e]
        refine mGo_ifI ok rfl (nI_leI (a := T.1) (b := k) (by omega) (by omega)) (fun h2 => ?_) (fun h2 => ?_)
        · refine mGo_run (n := 400) ok rfl ?_
          exact mGo_ret ok rfl (Or.inr rfl) (⟨rfl, rfl, rfl⟩)
        · omega
      | succ m ih =>
        intro k hk hb
        refine mGo_run (n := 400) ok rfl ?_
        rw [hc.1]
        refine mGo_ifI ok rfl (nI_leI (a := T.1) (b := k) (by omega) (by omega)) (fun h2 => ?_) (fun h2 => ?_)
        · omega
        · refine mGo_run (n := 400) ok rfl ?_
          refine mGo_schr ok rfl (sW 29 rfl) hi (by omega) (by omega) (by decide) ?_
          refine mGo_run (n := 400) ok rfl ?_
          refine mGo_side ok rfl (nI_in (by omega) (by omega)) ?_
          rw [nI_clamp (n := k) (by omega), hc.2 k (by omega)]
          refine mGo_run (n := 400) ok rfl ?_
          refine mGo_if ok rfl (fun h3 => ?_) (fun h3 => ?_)
          · refine mGo_runS 15 (n := 400) ok rfl ?_
            rw [nI_1]
            refine ih (k + 1) (by omega) (fun j hj => ?_)
            rcases Nat.lt_or_ge j k with z | z
            · exact hb j z
            · rw [show j = k by omega]; exact h3.symm
          · have e : spB T i = false := by
              cases hh : spB T i with
              | false => rfl
              | true => exact absurd ((spB_t.mp hh).2 k (by omega)).symm h3
            refine mGo_run (n := 400) ok rfl ?_
            rw [e]
            exact mGo_ret ok rfl (Or.inl rfl) (⟨rfl, rfl, rfl⟩)
    exact loop T.1 0 (by omega) (fun j hj => by omega)
  · have e : spB T i = false := by
      cases hh : spB T i with
      | false => rfl
      | true => exact absurd (spB_t.mp hh).1.symm h1
    refine mGo_run (n := 400) ok rfl ?_
    rw [e]
    exact mGo_ret ok rfl (Or.inl rfl) (⟨rfl, rfl, rfl⟩)
theorem c_wordIn (hT : T.1 ≤ 40) (hc : cI σ T) : mNP g l (d + 5) 70 [.ref 13, .ref 8] lk ex σ (.int (nI (qWd T))) := by
  have ok : mOkP md_X7_wordIn := ok_at 70 (by decide) rfl
  refine mC_of (md := md_X7_wordIn) rfl (lt_at (by decide)) rfl ?_
  unfold qWd
  refine mGo_run (n := 400) ok rfl ?_
  refine mGo_side ok rfl (trivial) ?_
  refine mGo_run (n := 400) ok rfl ?_
  refine mGo_callP ok rfl (by omega) (c_spells (d := d) hT hc (i := 0) (by omega)) ?_
  refine mGo_ifI ok rfl (bI_0) (fun h0 => ?_) (fun h0 => ?_)
  · rw [if_neg (by rw [h0]; decide)]
    refine mGo_run (n := 400) ok rfl ?_
    refine mGo_side ok rfl (trivial) ?_
    refine mGo_run (n := 400) ok rfl ?_
    refine mGo_callP ok rfl (by omega) (c_spells (d := d) hT hc (i := 1) (by omega)) ?_
    refine mGo_ifI ok rfl (bI_0) (fun h1 => ?_) (fun h1 => ?_)
    · rw [if_neg (by rw [h1]; decide)]
      refine mGo_run (n := 400) ok rfl ?_
      refine mGo_side ok rfl (trivial) ?_
      refine mGo_run (n := 400) ok rfl ?_
      refine mGo_callP ok rfl (by omega) (c_spells (d := d) hT hc (i := 2) (by omega)) ?_
      refine mGo_ifI ok rfl (bI_0) (fun h2 => ?_) (fun h2 => ?_)
      · rw [if_neg (by rw [h2]; decide)]
        refine mGo_run (n := 400) ok rfl ?_
        refine mGo_side ok rfl (trivial) ?_
        refine mGo_run (n := 400) ok rfl ?_
        refine mGo_callP ok rfl (by omega) (c_spells (d := d) hT hc (i := 3) (by omega)) ?_
        refine mGo_ifI ok rfl (bI_0) (fun h3 => ?_) (fun h3 => ?_)
        · rw [if_neg (by rw [h3]; decide)]
          refine mGo_run (n := 400) ok rfl ?_
          refine mGo_side ok rfl (trivial) ?_
          refine mGo_run (n := 400) ok rfl ?_
          refine mGo_callP ok rfl (by omega) (c_spells (d := d) hT hc (i := 4) (by omega)) ?_
          refine mGo_ifI ok rfl (bI_0) (fun h4 => ?_) (fun h4 => ?_)
          · rw [if_neg (by rw [h4]; decide)]
            refine mGo_run (n := 400) ok rfl ?_
            exact mGo_ret ok rfl trivial (⟨rfl, rfl, rfl⟩)
          · rw [if_pos (by simpa using h4)]
            refine mGo_run (n := 400) ok rfl ?_
            exact mGo_ret ok rfl trivial (⟨rfl, rfl, rfl⟩)
        · rw [if_pos (by simpa using h3)]
          refine mGo_run (n := 400) ok rfl ?_
          exact mGo_ret ok rfl trivial (⟨rfl, rfl, rfl⟩)
      · rw [if_pos (by simpa using h2)]
        refine mGo_run (n := 400) ok rfl ?_
        exact mGo_ret ok rfl trivial (⟨rfl, rfl, rfl⟩)
    · rw [if_pos (by simpa using h1)]
      refine mGo_run (n := 400) ok rfl ?_
      exact mGo_ret ok rfl trivial (⟨rfl, rfl, rfl⟩)
  · rw [if_pos (by simpa using h0)]
    refine mGo_run (n := 400) ok rfl ?_
    exact mGo_ret ok rfl trivial (⟨rfl, rfl, rfl⟩)
end T
