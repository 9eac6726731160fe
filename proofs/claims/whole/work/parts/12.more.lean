/-! steps with a condition are the machine's; what is made; calls; returns -/
section MS
variable {g : mG} {l : Launch} {md : mMd} {p : Program} {e : Env} {R : Room} {s : State} {m : MethodId} {args : Array Value} {below : List Frame} {meth : Method} {c : Code} {n0 t0 : Nat} {Q : State → Prop}
theorem mIst_ok {pc q n : Nat} {i x : Int32} {r : List (Option Nat)} {L : mLs} {t : List Value} {sp : mSh} {σ : mHp} (hX : mX g md p s m args meth c n0) (hd : decode md.2.2.1 pc = .ok (.iastore, 1)) (hat : sp[q]? = some (100, n, r)) (hlt : q < 1000000) (hi : vp_in i n) (k : mM g l md p e R s m args below meth c n0 t0 Q (pc + 1, L, t, sp, mWI σ q i.toNatClampNeg x)) : mM g l md p e R s m args below meth c n0 t0 Q (pc, L, .int x :: .int i :: .ref q :: t, sp, σ) := by
  intro hn ht H locs ls hP hS hl
  show W p l e R s m args below meth c H locs _ _ Q (F0 m pc ls (.int x :: .int i :: .ref (mAl (mGh g) q) :: t.map (mE (mGh g))))
  rw [mAl_lt hlt]
  refine va_iast hX.1 hX.2.1 hX.2.2.2.2.2.1.1 hP (mWl_D g sp σ) hS q 0 (mWl_at (g := g) (σ := σ) hat) rfl hi hd (fun H1 locs1 h1 _ h3 => ?_)
  rw [mWl_set (σ' := mWI σ q i.toNatClampNeg x) rfl hat (by simp [mCell, mWI]) (fun _ _ => rfl) (fun j sh hj => mCell_WI hj)] at h1
  exact k hn ht H1 locs1 ls h1 h3 hl
theorem mIld_ok {pc q n : Nat} {i : Int32} {r : List (Option Nat)} {L : mLs} {t : List Value} {sp : mSh} {σ : mHp} (hX : mX g md p s m args meth c n0) (hd : decode md.2.2.1 pc = .ok (.iaload, 1)) (hat : sp[q]? = some (100, n, r)) (hlt : q < 1000000) (hi : vp_in i n) (k : mM g l md p e R s m args below meth c n0 t0 Q (pc + 1, L, .int (σ.1 q i.toNatClampNeg) :: t, sp, σ)) : mM g l md p e R s m args below meth c n0 t0 Q (pc, L, .int i :: .ref q :: t, sp, σ) := by
  intro hn ht H locs ls hP hS hl
  show W p l e R s m args below meth c H locs _ _ Q (F0 m pc ls (.int i :: .ref (mAl (mGh g) q) :: t.map (mE (mGh g))))
  rw [mAl_lt hlt]
  exact va_iald hX.1 hX.2.1 hX.2.2.2.2.2.1.1 hP q 0 (mWl_at (g := g) (σ := σ) hat) rfl hi hd (k hn ht H locs ls hP hS hl)
set_option maxHeartbeats 4000000 in
theorem mSd_ok (hX : mX g md p s m args meth c n0) (hok : mOkP md) {pc : Nat} {r : mRow} {L : mLs} {st : List Value} {sp : mSh} {σ : mHp} {C : Prop} {cf : mCf} (hr : mIn md.2.2.2.2.2 pc = some r) (h : mSd g r L st sp σ = some (C, cf)) (hC : C) (k : mM g l md p e R s m args below meth c n0 t0 Q cf) : mM g l md p e R s m args below meth c n0 t0 Q (pc, L, st, sp, σ) := by
  obtain ⟨hd0, -, hx0⟩ := mRow_ok hok.1 hr
  obtain ⟨ins, np, a, b, cc, v, w⟩ := r
  have hx : mRx md.2.1 (md.1.name == "<init>") pc (ins, np, a, b, cc, v, w) = true := hx0
  have hd1 : decode md.2.2.1 pc = .ok (ins, np - pc) := hd0
  clear hx0 hd0 hr
  have hK := hX.2.2.2.2.2.1.1
  cases ins with
  | iaload =>
    have e1 : np = pc + 1 := of_decide_eq_true hx
    subst e1
    have hd := mDec hd1 rfl
    clear hd1 hx
    simp only [mSd] at h
    split at h
    · split at h
      · rename_i hsp
        simp only [Option.some.injEq, Prod.mk.injEq] at h
        obtain ⟨rfl, rfl⟩ := h
        obtain ⟨h1, h2⟩ := mSpA_at hsp
        exact mIld_ok hX hd h1 h2 hC k
      · cases h
    · cases h
  | laload =>
    have e1 : np = pc + 1 := of_decide_eq_true hx
    subst e1
    have hd := mDec hd1 rfl
    clear hd1 hx
    simp only [mSd] at h
    split at h
    · rename_i i q t
      split at h
      · rename_i n r hsp
        simp only [Option.some.injEq, Prod.mk.injEq] at h
        obtain ⟨rfl, rfl⟩ := h
        obtain ⟨h1, h2⟩ := mSpA_at hsp
        intro hn ht H locs ls hP hS hl
        show W p l e R s m args below meth c H locs _ _ Q (F0 m pc ls (.int i :: .ref (mAl (mGh g) q) :: t.map (mE (mGh g))))
        rw [mAl_lt h2]
        exact va_lald hX.1 hX.2.1 hK hP q 1 (mWl_at (g := g) (σ := σ) h1) rfl hC hd (k hn ht H locs ls hP hS hl)
      · cases h
    · cases h
  | daload =>
    have e1 : np = pc + 1 := of_decide_eq_true hx
    subst e1
    have hd := mDec hd1 rfl
    clear hd1 hx
    simp only [mSd] at h
    split at h
    · rename_i i q t
      split at h
      · rename_i n r hsp
        simp only [Option.some.injEq, Prod.mk.injEq] at h
        obtain ⟨rfl, rfl⟩ := h
        obtain ⟨h1, h2⟩ := mSpA_at hsp
        intro hn ht H locs ls hP hS hl
        show W p l e R s m args below meth c H locs _ _ Q (F0 m pc ls (.int i :: .ref (mAl (mGh g) q) :: t.map (mE (mGh g))))
        rw [mAl_lt h2]
        exact va_dald hX.1 hX.2.1 hK hP q 2 (mWl_at (g := g) (σ := σ) h1) rfl hC hd (k hn ht H locs ls hP hS hl)
      · cases h
    · cases h
  | aaload =>
    have e1 : np = pc + 1 := of_decide_eq_true hx
    subst e1
    have hd := mDec hd1 rfl
    clear hd1 hx
    simp only [mSd] at h
    split at h
    · rename_i i q t
      split at h
      · rename_i n r hsp
        obtain ⟨h1, h2⟩ := mSpA_at hsp
        split at h
        · rename_i hr
          simp only [Option.some.injEq, Prod.mk.injEq] at h
          obtain ⟨rfl, rfl⟩ := h
          intro hn ht H locs ls hP hS hl
          show W p l e R s m args below meth c H locs _ _ Q (F0 m pc ls (.int i :: .ref (mAl (mGh g) q) :: t.map (mE (mGh g))))
          rw [mAl_lt h2]
          refine va_aldq hX.1 hX.2.1 hK hP q 3 (mWl_at (g := g) (σ := σ) h1) rfl hC hd ?_
          show W p l e R s m args below meth c H locs _ _ Q (F0 m (pc + 1) ls (va_rf ((r.getD i.toNatClampNeg none).map (mAl (mGh g))) :: _))
          rw [← mRn_eq, hr]
          exact k hn ht H locs ls hP hS hl
        · rename_i j hr
          simp only [Option.some.injEq, Prod.mk.injEq] at h
          obtain ⟨rfl, rfl⟩ := h
          intro hn ht H locs ls hP hS hl
          show W p l e R s m args below meth c H locs _ _ Q (F0 m pc ls (.int i :: .ref (mAl (mGh g) q) :: t.map (mE (mGh g))))
          rw [mAl_lt h2]
          refine va_aldq hX.1 hX.2.1 hK hP q 3 (mWl_at (g := g) (σ := σ) h1) rfl hC hd ?_
          show W p l e R s m args below meth c H locs _ _ Q (F0 m (pc + 1) ls (va_rf ((r.getD i.toNatClampNeg none).map (mAl (mGh g))) :: _))
          rw [← mRn_eq, hr]
          exact k hn ht H locs ls hP hS hl
      · cases h
    · cases h
  | iastore =>
    have e1 : np = pc + 1 := of_decide_eq_true hx
    subst e1
    have hd := mDec hd1 rfl
    clear hd1 hx
    simp only [mSd] at h
    split at h
    · split at h
      · rename_i hsp
        simp only [Option.some.injEq, Prod.mk.injEq] at h
        obtain ⟨rfl, rfl⟩ := h
        obtain ⟨h1, h2⟩ := mSpA_at hsp
        exact mIst_ok hX hd h1 h2 hC k
      · cases h
    · cases h
  | lastore =>
    have e1 : np = pc + 1 := of_decide_eq_true hx
    subst e1
    have hd := mDec hd1 rfl
    clear hd1 hx
    simp only [mSd] at h
    split at h
    · rename_i x i q t
      split at h
      · rename_i n r hsp
        simp only [Option.some.injEq, Prod.mk.injEq] at h
        obtain ⟨rfl, rfl⟩ := h
        obtain ⟨h1, h2⟩ := mSpA_at hsp
        intro hn ht H locs ls hP hS hl
        show W p l e R s m args below meth c H locs _ _ Q (F0 m pc ls (.long x :: .int i :: .ref (mAl (mGh g) q) :: t.map (mE (mGh g))))
        rw [mAl_lt h2]
        refine va_last hX.1 hX.2.1 hK hP (mWl_D g sp σ) hS q 1 (mWl_at (g := g) (σ := σ) h1) rfl hC hd (fun H1 locs1 g1 _ g3 => ?_)
        rw [mWl_set (σ' := mWL σ q i.toNatClampNeg x) rfl h1 (by simp [mCell, mWL]) (fun _ _ => rfl) (fun j sh hj => mCell_WL hj)] at g1
        exact k hn ht H1 locs1 ls g1 g3 hl
      · cases h
    · cases h
  | dastore =>
    have e1 : np = pc + 1 := of_decide_eq_true hx
    subst e1
    have hd := mDec hd1 rfl
    clear hd1 hx
    simp only [mSd] at h
    split at h
    · rename_i x i q t
      split at h
      · rename_i n r hsp
        simp only [Option.some.injEq, Prod.mk.injEq] at h
        obtain ⟨rfl, rfl⟩ := h
        obtain ⟨h1, h2⟩ := mSpA_at hsp
        intro hn ht H locs ls hP hS hl
        show W p l e R s m args below meth c H locs _ _ Q (F0 m pc ls (.double x :: .int i :: .ref (mAl (mGh g) q) :: t.map (mE (mGh g))))
        rw [mAl_lt h2]
        refine va_dast hX.1 hX.2.1 hK hP (mWl_D g sp σ) hS q 2 (mWl_at (g := g) (σ := σ) h1) rfl hC hd (fun H1 locs1 g1 _ g3 => ?_)
        rw [mWl_set (σ' := mWD σ q i.toNatClampNeg x) rfl h1 (by simp [mCell, mWD]) (fun _ _ => rfl) (fun j sh hj => mCell_WD hj)] at g1
        exact k hn ht H1 locs1 ls g1 g3 hl
      · cases h
    · cases h
  | putfield i =>
    simp only [mRx, Bool.and_eq_true, decide_eq_true_eq] at hx
    obtain ⟨⟨e1, e2, e3, e4⟩, e5⟩ := hx
    subst e1
    have hd := mDec hd1 rfl
    clear hd1
    simp only [mSd] at h
    split at h
    · split at h
      · rename_i x ix t
        cases hh : mHas sp ix a b with
        | false => rw [hh] at h; cases h
        | true =>
          rw [hh] at h
          simp only [cond_true, Option.some.injEq, Prod.mk.injEq] at h
          obtain ⟨rfl, rfl⟩ := h
          rw [if_pos (by decide)] at e5
          have e6 := of_decide_eq_true e5
          exact mPfI_ok (cc := 3) hX e2 e3 e4 ⟨fun _ => e6.2, fun q => absurd (by decide) q⟩ hd hh (Or.inr ⟨e6.1.symm, hC⟩) k
      · cases h
    · cases h
  | lrem =>
    have e1 : np = pc + 1 := of_decide_eq_true hx
    subst e1
    have hd := mDec hd1 rfl
    clear hd1 hx
    simp only [mSd] at h
    split at h
    · simp only [Option.some.injEq, Prod.mk.injEq] at h
      obtain ⟨rfl, rfl⟩ := h
      intro hn ht H locs ls hP hS hl
      exact lv_lrem hX.1 hX.2.1 hd hC (k hn ht H locs ls hP hS hl)
    · cases h
  | f2d =>
    have e1 : np = pc + 1 := of_decide_eq_true hx
    subst e1
    have hd := mDec hd1 rfl
    clear hd1 hx
    simp only [mSd] at h
    split at h
    · simp only [Option.some.injEq, Prod.mk.injEq] at h
      obtain ⟨rfl, rfl⟩ := h
      intro hn ht H locs ls hP hS hl
      exact lv_f2d hX.1 hX.2.1 hd hC (k hn ht H locs ls hP hS hl)
    · cases h
  | d2f =>
    have e1 : np = pc + 1 := of_decide_eq_true hx
    subst e1
    have hd := mDec hd1 rfl
    clear hd1 hx
    simp only [mSd] at h
    split at h
    · simp only [Option.some.injEq, Prod.mk.injEq] at h
      obtain ⟨rfl, rfl⟩ := h
      intro hn ht H locs ls hP hS hl
      exact lv_d2f hX.1 hX.2.1 hd hC (k hn ht H locs ls hP hS hl)
    · cases h
  | fdiv =>
    have e1 : np = pc + 1 := of_decide_eq_true hx
    subst e1
    have hd := mDec hd1 rfl
    clear hd1 hx
    simp only [mSd] at h
    split at h
    · simp only [Option.some.injEq, Prod.mk.injEq] at h
      obtain ⟨rfl, rfl⟩ := h
      intro hn ht H locs ls hP hS hl
      exact lv_fdiv hX.1 hX.2.1 hd hC (k hn ht H locs ls hP hS hl)
    · cases h
  | ddiv =>
    have e1 : np = pc + 1 := of_decide_eq_true hx
    subst e1
    have hd := mDec hd1 rfl
    clear hd1 hx
    simp only [mSd] at h
    split at h
    · simp only [Option.some.injEq, Prod.mk.injEq] at h
      obtain ⟨rfl, rfl⟩ := h
      intro hn ht H locs ls hP hS hl
      exact lv_ddiv hX.1 hX.2.1 hd hC (k hn ht H locs ls hP hS hl)
    · cases h
  | dadd =>
    have e1 : np = pc + 1 := of_decide_eq_true hx
    subst e1
    have hd := mDec hd1 rfl
    clear hd1 hx
    simp only [mSd] at h
    split at h
    · simp only [Option.some.injEq, Prod.mk.injEq] at h
      obtain ⟨rfl, rfl⟩ := h
      intro hn ht H locs ls hP hS hl
      exact lv_dadd hX.1 hX.2.1 hd hC (k hn ht H locs ls hP hS hl)
    · cases h
  | dsub =>
    have e1 : np = pc + 1 := of_decide_eq_true hx
    subst e1
    have hd := mDec hd1 rfl
    clear hd1 hx
    simp only [mSd] at h
    split at h
    · simp only [Option.some.injEq, Prod.mk.injEq] at h
      obtain ⟨rfl, rfl⟩ := h
      intro hn ht H locs ls hP hS hl
      exact lv_dsub hX.1 hX.2.1 hd hC (k hn ht H locs ls hP hS hl)
    · cases h
  | ldc i =>
    simp only [mRx, Bool.and_eq_true, decide_eq_true_eq] at hx
    obtain ⟨e1, e2⟩ := hx
    subst e1
    have hd := mDec hd1 rfl
    clear hd1
    simp only [mSd] at h
    split at h
    · simp only [Option.some.injEq, Prod.mk.injEq] at h
      obtain ⟨rfl, rfl⟩ := h
      rw [if_neg (by decide)] at e2
      obtain ⟨e3, e4⟩ := of_decide_eq_true e2
      cases hs : mStL[b]? with
      | none => rw [hs] at e4; cases e4
      | some q =>
        rw [hs] at e4
        simp at e4
        subst e4
        have hz := hX.2.2.2.2.2.1.2.1 b q hs
        have ho : s.vm.findClass RX7 = some m.cls := by
          have h9 := hX.2.2.2.1
          rw [e3] at h9
          exact h9
        intro hn ht H locs ls hP hS hl
        refine va_ldcS hX.1 hX.2.1 ho hz hd ?_
        have K := k hn ht H locs ls hP hS hl
        have e9 : mE (mGh g) (.ref (1000000 + mGs g b)) = .ref (mGs g b) := by simp only [mE, mAl]; rw [if_neg (by omega)]; simp
        have K : W p l e R s m args below meth c H locs _ _ Q (F0 m (pc + 2) ls (mE (mGh g) (.ref (1000000 + mGs g b)) :: st.map (mE (mGh g)))) := K
        rw [e9] at K
        exact K
    · cases h
  | _ => simp [mSd] at h
end MS
