/-! calls and returns; the judgement 'from here the method returns, and then ..' -/
def mRm (d n t : Nat) : Room := { frames := d, cells := n, slots := t, locals := 41 * d }
def mWs (a : Nat) : List Cond := mCoC (mD a) :: mTB
def mPre (g : mG) (as : List Value) (sp : mSh) (σ : mHp) : Array Value → State → Prop := va_Pc (as.map (mE (mGh g))) (fun U => U.heap.size = mGh g + sp.length ∧ (∀ q : Nat, q < mGh g → U.heap[q]? = (mGH g)[q]?) ∧ mP g sp σ U.heap ∧ mK g U)
def mPost (g : mG) (r : Option Value) (sp : mSh) (σ : mHp) : Array Value → State → Outcome → State → Prop := fun _ st oc t => oc = .returned (r.map (mE (mGh g))) ∧ mP g sp σ t.heap ∧ va_F (mA g) st t
/-- method number a, called with as at (sp, σ), with d frames below it, answers r and leaves (sp1, σ1) -/
def mEv (g : mG) (l : Launch) (d a : Nat) (as : List Value) (sp : mSh) (σ : mHp) (r : Option Value) (sp1 : mSh) (σ1 : mHp) : Prop :=
  sp.length ≤ sp1.length ∧ mTot sp ≤ mTot sp1 ∧ Met l (mD a).1 (mWs a) (mRm d (sp1.length - sp.length) (mTot sp1 - mTot sp)) (mPre g as sp σ) (mPost g r sp1 σ1) (sp1.length - sp.length) (mTot sp1 - mTot sp) (mA g)
/-- the arguments are taken from the stack -/
def mTk {β : Type} : Nat → List Value → List Value → (List Value → List Value → Option β) → Option β
  | 0, st, acc, k => k acc st
  | n + 1, v :: t, acc, k => mTk n t (v :: acc) k
  | _ + 1, [], _, _ => none
theorem mTk_spec {β : Type} : ∀ {n : Nat} {st acc : List Value} {k : List Value → List Value → Option β} {b : β}, mTk n st acc k = some b → ∃ xs t, xs.length = n ∧ st = xs ++ t ∧ k (xs.reverse ++ acc) t = some b := by
  intro n
  induction n with
  | zero => intro st acc k b h; exact ⟨[], st, rfl, rfl, h⟩
  | succ n ih =>
    intro st acc k b h
    cases st with
    | nil => simp [mTk] at h
    | cons v t =>
      obtain ⟨xs, t1, h1, h2, h3⟩ := ih h
      exact ⟨v :: xs, t1, by simp [h1], by simp [h2], by simpa using h3⟩
def mCs : List Value → Nat
  | [] => 0
  | v :: t => v.category + mCs t
theorem mCs_eq (h : Nat) : ∀ t : List Value, ((t.map (mE h)).map fun v => v.category).sum = mCs t := by
  intro t
  induction t with
  | nil => rfl
  | cons v t ih => simp [mCs, mE_cat, ← ih]
/-- a call: the method's number, its arguments, the rest of the stack -/
def mCl (r : mRow) (st : List Value) (sp : mSh) : Option (Nat × List Value × List Value) := match r with
  | (ins, _, a, b, c, _, _) => match ins with
    | .invokevirtual _ => bif Nat.blt a 1000 then mTk b st [] (fun as t => bif Nat.ble (mCs t) 8 then (match as with
      | .ref i :: _ => (match mSpA sp i with
        | some (ci, _, _) => bif Nat.beq ci c && Nat.blt c 10 then some (a, as, t) else none
        | none => none)
      | _ => none) else none) else none
    | .invokestatic _ => bif Nat.blt a 1000 then mTk b st [] (fun as t => bif Nat.ble (mCs t) 8 then some (a, as, t) else none) else none
    | .invokespecial _ => bif Nat.blt a 1000 then mTk b st [] (fun as t => bif Nat.ble (mCs t) 8 then (match as with
      | .ref _ :: _ => some (a, as, t)
      | _ => none) else none) else none
    | _ => none
def mPu (r : Option Value) (t : List Value) : List Value := match r with
  | none => t
  | some v => v :: t
section MS
variable {g : mG} {l : Launch} {md : mMd} {p : Program} {e : Env} {R : Room} {s : State} {m : MethodId} {args : Array Value} {below : List Frame} {meth : Method} {c : Code} {n0 t0 : Nat} {Q : State → Prop}
theorem mCallW {H : Heap} {locs : List Loc} {cells slots mc ms pc : Nat} {ls : Array Slot} {st0 rest : List Value} {Qa : State → Outcome → State → Prop} {free : Addr → Prop} (hr : va_Run p l e R s m args below meth c H locs cells slots mc ms (F0 m pc ls st0) rest Qa free) (kk : ∀ (v : Option Value) (st₀ t : State) (L : List Loc), st₀.heap = H → Qa st₀ (.returned v) t → (∀ q ∈ L, free q.base) → W p l e R s m args below meth c t.heap (locs ++ L) (cells + mc) (slots + ms) Q (F0 m (pc + 3) ls (v.toList ++ rest))) : W p l e R s m args below meth c H locs cells slots Q (F0 m pc ls st0) := by
  intro T hT X
  obtain ⟨v, st₀, t, T', L, h0, X', hL, e1, e2, hq, st⟩ := hr T hT X
  obtain ⟨t2, a1, b1⟩ := kk v st₀ t L h0 hq hL T' e1 X'
  exact ⟨t2, st t2 a1, b1⟩
theorem mCoW {a : Nat} : mWs a = Cond.code (mD a).1 (mD a).2.2.1 (mD a).2.2.2.1 (mD a).2.2.2.2.1 :: mTB := rfl
theorem mGood {a : Nat} (h : a < mdL.length) : GoodIn mTB (mWs a) := by
  intro w hw
  rcases List.mem_cons.mp hw with rfl | hw
  · exact mTB_good _ (mCo_in _ (mD_mem h))
  · exact mTB_good _ hw
theorem mBlind {as : List Value} {sp : mSh} {σ : mHp} : FrameBlind (mPre g as sp σ) := by
  intro a U g0 mk q
  obtain ⟨q0, q1, q2, q3, q4⟩ := q
  exact ⟨q0, q1, q2, q3, mK.same rfl q4⟩
theorem mMdD {a : Nat} (h : a < mdL.length) : (mD a).1.cls = mCn (mD a).2.1 ∧ plainFor (mD a).1 = true ∧ ((mD a).1.cls ≠ "java/lang/invoke/MethodHandle" ∧ (mD a).1.cls ≠ "java/lang/invoke/VarHandle") := by
  have h1 := mOk_all _ (mD_mem h)
  simp only [mMdOk, Bool.and_eq_true, decide_eq_true_eq] at h1
  exact ⟨h1.1.1.2, h1.1.2, h1.2⟩
/-- what comes behind a call, of whatever kind -/
theorem mCallK {pc np : Nat} {H : Heap} {locs : List Loc} {ls : Array Slot} {L : mLs} {t st0 : List Value} {sp sp1 : mSh} {σ1 : mHp} {r : Option Value} (hX : mX g md p s m args meth c n0) (enp : np = pc + 3) (hlen : sp.length ≤ sp1.length) (htot : mTot sp ≤ mTot sp1) (hn : n0 ≤ sp.length) (ht : t0 ≤ mTot sp) (hS : va_S (mA g) s.heap H locs) (hl : mLoc (mGh g) ls md.2.2.2.1 L) {Aa : Array Value}
    (hr : va_Run p l e R s m args below meth c H locs (sp.length - n0) (mTot sp - t0) (sp1.length - sp.length) (mTot sp1 - mTot sp) (F0 m pc ls st0) (t.map (mE (mGh g))) (mPost g r sp1 σ1 Aa) (mA g)) (k : mM g l md p e R s m args below meth c n0 t0 Q (np, L, mPu r t, sp1, σ1)) : W p l e R s m args below meth c H locs (sp.length - n0) (mTot sp - t0) Q (F0 m pc ls st0) := by
  subst enp
  refine mCallW hr (fun v st₀ t1 L1 h0 hq hL => ?_)
  obtain ⟨h1, h2, h3⟩ := hq
  have hv : v = r.map (mE (mGh g)) := by cases h1; rfl
  subst hv
  have hS1 : va_S (mA g) s.heap t1.heap (locs ++ L1) := by
    refine ⟨Nat.le_trans hS.1 (by rw [← h0]; exact h3.1), fun q hq1 hq2 => ?_, fun q hq => ?_⟩
    · rw [h3.2 q (by rw [h0]; exact Nat.lt_of_lt_of_le hq1 hS.1) hq2, h0]
      exact hS.2.1 q hq1 hq2
    · rcases List.mem_append.mp hq with h | h
      · exact hS.2.2 q h
      · exact hL q h
  have K := k (by show n0 ≤ sp1.length; omega) (by show t0 ≤ mTot sp1; omega) t1.heap (locs ++ L1) ls h2 hS1 hl
  have K : W p l e R s m args below meth c t1.heap (locs ++ L1) (sp1.length - n0) (mTot sp1 - t0) Q (F0 m (pc + 3) ls ((mPu r t).map (mE (mGh g)))) := K
  have e1 : sp.length - n0 + (sp1.length - sp.length) = sp1.length - n0 := by omega
  have e2 : mTot sp - t0 + (mTot sp1 - mTot sp) = mTot sp1 - t0 := by omega
  rw [e1, e2]
  cases r <;> exact K
set_option maxHeartbeats 4000000 in
theorem mCl_ok (hX : mX g md p s m args meth c n0) (hok : mOkP md) {pc np a a0 b cc d : Nat} {ins : Jvm.ClassFile.Instr} {v : Int32} {w : Int64} {L : mLs} {st as t : List Value} {sp sp1 : mSh} {σ σ1 : mHp} {r : Option Value} (hr : mIn md.2.2.2.2.2 pc = some (ins, np, a0, b, cc, v, w)) (h : mCl (ins, np, a0, b, cc, v, w) st sp = some (a, as, t)) (hev : mEv g l d a as sp σ r sp1 σ1) (hR : d + 1 ≤ R.frames) (hR2 : 41 * (d + 1) ≤ R.locals) (hRc : sp1.length - n0 ≤ R.cells) (hRs : mTot sp1 - t0 ≤ R.slots) (k : mM g l md p e R s m args below meth c n0 t0 Q (np, L, mPu r t, sp1, σ1)) : mM g l md p e R s m args below meth c n0 t0 Q (pc, L, st, sp, σ) := by
  obtain ⟨hd0, -, hx0⟩ := mRow_ok hok.1 hr
  obtain ⟨hlen, htot, hM⟩ := hev
  intro hn ht H locs ls hP hS hl T hT X
  have hn : n0 ≤ sp.length := hn
  have ht : t0 ≤ mTot sp := ht
  have X : Stand p l e R s m args below meth c T locs (sp.length - n0) (mTot sp - t0) := X
  have hsz : H.size = mGh g + sp.length := by
    have h1 := X.heapSize
    rw [hT, hX.2.2.2.2.2.2.2.2.1] at h1
    have h2 := mP_le hP (by have := hS.1; rw [hX.2.2.2.2.2.2.2.2.1] at this; omega)
    have h2 : mGh g + sp.length ≤ H.size := h2
    omega
  have hpre : ∀ U : State, U.heap = H → s.WarmedH U.vm → mPre g as sp σ (as.map (mE (mGh g))).toArray U := by
    intro U hU hW
    refine ⟨rfl, by rw [hU]; exact hsz, fun q hq => ?_, by rw [hU]; exact hP, mK.warm hW hX.2.2.2.2.2.1⟩
    rw [hU, hS.2.1 q (by rw [hX.2.2.2.2.2.2.2.2.1]; omega) (by show ¬ mGh g ≤ q; omega)]
    exact hX.2.2.2.2.2.2.2.2.2.1 q hq
  have hfix : CallFix p m c md.2.2.1 md.2.2.2.1 s args mTB (mCn md.2.1) := ⟨hX.1, hX.2.1, hX.2.2.1, hX.2.2.2.1, hX.2.2.2.2.1⟩
  have hf : sp.length - n0 + (sp1.length - sp.length) ≤ R.cells ∧ mTot sp - t0 + (mTot sp1 - mTot sp) ≤ R.slots := by constructor <;> omega
  have hms : ∀ {tt : List Value}, mCs tt ≤ 8 → 2 * (F0 m pc ls (st.map (mE (mGh g)))).monitorRoom + ((tt.map (mE (mGh g))).map fun v => v.category).sum ≤ 8 := by
    intro tt htt
    show 2 * 0 + _ ≤ 8
    rw [mCs_eq]
    omega
  cases ins with
  | invokevirtual i =>
    simp only [mRx, Bool.and_eq_true, decide_eq_true_eq] at hx0
    obtain ⟨e1, e2⟩ := hx0
    have hd : decode md.2.2.1 pc = .ok (.invokevirtual i, 3) := mDec hd0 e1
    unfold mCl at h
    simp only at h
    cases hb : Nat.blt a0 1000 with
    | false => rw [hb] at h; cases h
    | true =>
      rw [hb] at h
      obtain ⟨xs, t1, h1, h2, h3⟩ := mTk_spec h
      simp only [List.append_nil] at h3
      cases hc : Nat.ble (mCs t1) 8 with
      | false => rw [hc] at h3; cases h3
      | true =>
        rw [hc] at h3
        simp only [cond_true] at h3
        split at h3
        · rename_i ix As hxs
          split at h3
          · rename_i ci n1 r1 hsp
            cases hci : (Nat.beq ci cc && Nat.blt cc 10) with
            | false => rw [hci] at h3; cases h3
            | true =>
              rw [hci] at h3
              simp only [cond_true, Option.some.injEq, Prod.mk.injEq] at h3
              obtain ⟨rfl, rfl, rfl⟩ := h3
              rw [if_pos (by simpa [Nat.blt_eq] using hb)] at e2
              obtain ⟨f1, f2, f3, f4, f5, f6, f7, f8, f9⟩ := of_decide_eq_true e2
              simp only [Bool.and_eq_true] at hci
              have ecc : ci = cc := Nat.eq_of_beq_eq_true hci.1
              have hcc10 : cc < 10 := by simpa [Nat.blt_eq] using hci.2
              subst ecc
              obtain ⟨hat, hlt⟩ := mSpA_at hsp
              obtain ⟨m1, m2, m3⟩ := mMdD f6
              obtain ⟨q, hq, hqm, hqn, hqd⟩ := mCl_of hcc10
              have hqc : q.1 = mCn ci := by
                match ci, hcc10, hq with
                | 0, _, hq => cases hq; rfl
                | 1, _, hq => cases hq; rfl
                | 2, _, hq => cases hq; rfl
                | 3, _, hq => cases hq; rfl
                | 4, _, hq => cases hq; rfl
                | 5, _, hq => cases hq; rfl
                | 6, _, hq => cases hq; rfl
                | 7, _, hq => cases hq; rfl
                | 8, _, hq => cases hq; rfl
                | 9, _, hq => cases hq; rfl
              have hcell := mWl_at (g := g) (σ := σ) hat
              rw [mCell_obj hcc10] at hcell
              have hrec := va_recv (hX.2.2.2.2.2.1.1) hP hq hcell
              rw [hqc] at hrec
              have hlenA : As.length = b - 1 := by
                have := congrArg List.length hxs
                simp at this
                omega
              have hst : st = (As.reverse ++ [Value.ref ix]) ++ t1 := by
                rw [h2]
                have := congrArg List.reverse hxs
                rw [List.reverse_reverse] at this
                rw [this]
                simp
              have CB : CallB R s args (mCn md.2.1) i (mD a0).1 (mD a0).2.2.1 (mD a0).2.2.2.1 (mD a0).2.2.2.2.1 (mWs a0) (mRm d (sp1.length - sp.length) (mTot sp1 - mTot sp)) (sp1.length - sp.length) (mTot sp1 - mTot sp) (b - 1) :=
                callB_of (b - 1) hX.2.2.2.2.1 (mGood f6) mCoW rfl rfl (by rw [m1]; exact hX.2.2.2.2.1 _ (mNv_in _ f4)) (hX.2.2.2.2.1 _ (mML_in _ f1)) ⟨m3.1, m3.2, f7⟩ ⟨hR, by show 8 + ((mD a0).2.2.2.1 + 11) + 41 * d ≤ R.locals; omega⟩
              have cw : CallW R s args (mCn md.2.1) (mCn ci) i (mD a0).1 (mD a0).2.2.1 (mD a0).2.2.2.1 (mD a0).2.2.2.2.1 (mWs a0) (mRm d (sp1.length - sp.length) (mTot sp1 - mTot sp)) (sp1.length - sp.length) (mTot sp1 - mTot sp) (b - 1) :=
                ⟨CB, hX.2.2.2.2.1 _ (mIv_in _ f2), by rw [← f5]; exact hX.2.2.2.2.1 _ (mSv_in _ f3)⟩
              rw [hxs] at hM hpre
              have hrun := va_runV (As := As.map (mE (mGh g))) (rest := t1.map (mE (mGh g))) (b := mGh g + ix) (g := F0 m pc ls (st.map (mE (mGh g)))) (locs := locs) (below := below) (meth := meth) (p := p) (e := e) hfix hM cw ⟨mBlind, hrec, fun U hU hW => by
                have h9 := hpre U hU hW
                rw [List.map_cons, show mE (mGh g) (.ref ix) = .ref (mGh g + ix) by show Value.ref (mAl (mGh g) ix) = _; rw [mAl_lt hlt]] at h9
                exact h9⟩ rfl (by rw [List.length_map]; exact hlenA) hl.2.1 (by
                show st.map (mE (mGh g)) = _
                rw [hst, List.map_append, List.map_append, List.map_reverse]
                simp only [List.map_cons, List.map_nil, List.append_assoc, List.singleton_append]
                rw [show mE (mGh g) (.ref ix) = .ref (mGh g + ix) by show Value.ref (mAl (mGh g) ix) = _; rw [mAl_lt hlt]]) (hms (Nat.le_of_ble_eq_true hc)) hd hf
              exact mCallK hX e1 hlen htot hn ht hS hl hrun k T hT X
          · cases h3
        · cases h3
  | invokestatic i =>
    simp only [mRx, Bool.and_eq_true, decide_eq_true_eq] at hx0
    obtain ⟨e1, e2⟩ := hx0
    have hd : decode md.2.2.1 pc = .ok (.invokestatic i, 3) := mDec hd0 e1
    unfold mCl at h
    simp only at h
    cases hb : Nat.blt a0 1000 with
    | false => rw [hb] at h; cases h
    | true =>
      rw [hb] at h
      obtain ⟨xs, t1, h1, h2, h3⟩ := mTk_spec h
      simp only [List.append_nil] at h3
      cases hc : Nat.ble (mCs t1) 8 with
      | false => rw [hc] at h3; cases h3
      | true =>
        rw [hc] at h3
        simp only [cond_true, Option.some.injEq, Prod.mk.injEq] at h3
        obtain ⟨rfl, rfl, rfl⟩ := h3
        rw [if_pos (by simpa [Nat.blt_eq] using hb)] at e2
        obtain ⟨f1, f2, f4, f6, f7, f9⟩ := of_decide_eq_true e2
        obtain ⟨m1, m2, m3⟩ := mMdD f6
        have CB : CallB R s args (mCn md.2.1) i (mD a0).1 (mD a0).2.2.1 (mD a0).2.2.2.1 (mD a0).2.2.2.2.1 (mWs a0) (mRm d (sp1.length - sp.length) (mTot sp1 - mTot sp)) (sp1.length - sp.length) (mTot sp1 - mTot sp) b :=
          callB_of b hX.2.2.2.2.1 (mGood f6) mCoW rfl rfl (by rw [m1]; exact hX.2.2.2.2.1 _ (mNv_in _ f4)) (hX.2.2.2.2.1 _ (mML_in _ f1)) ⟨m3.1, m3.2, f7⟩ ⟨hR, by show 8 + ((mD a0).2.2.2.1 + 11) + 41 * d ≤ R.locals; omega⟩
        have hrun := va_runS (As := xs.reverse.map (mE (mGh g))) (rest := t1.map (mE (mGh g))) (g := F0 m pc ls (st.map (mE (mGh g)))) (locs := locs) (below := below) (meth := meth) (p := p) (e := e) hfix hM ⟨CB, hX.2.2.2.2.1 _ (mTv_in _ f2)⟩ ⟨mBlind, hpre⟩ rfl (by simp [h1]) hl.2.1 (by
          show st.map (mE (mGh g)) = _
          rw [h2, List.map_append, List.map_reverse, List.reverse_reverse]) (hms (Nat.le_of_ble_eq_true hc)) hd hf
        exact mCallK hX e1 hlen htot hn ht hS hl hrun k T hT X
  | invokespecial i =>
    simp only [mRx, Bool.and_eq_true, decide_eq_true_eq] at hx0
    obtain ⟨e1, e2⟩ := hx0
    have hd : decode md.2.2.1 pc = .ok (.invokespecial i, 3) := mDec hd0 e1
    unfold mCl at h
    simp only at h
    cases hb : Nat.blt a0 1000 with
    | false => rw [hb] at h; cases h
    | true =>
      rw [hb] at h
      obtain ⟨xs, t1, h1, h2, h3⟩ := mTk_spec h
      simp only [List.append_nil] at h3
      cases hc : Nat.ble (mCs t1) 8 with
      | false => rw [hc] at h3; cases h3
      | true =>
        rw [hc] at h3
        simp only [cond_true] at h3
        split at h3
        · rename_i ix As hxs
          simp only [Option.some.injEq, Prod.mk.injEq] at h3
          obtain ⟨rfl, rfl, rfl⟩ := h3
          rw [if_pos (by simpa [Nat.blt_eq] using hb)] at e2
          simp only [Bool.and_eq_true] at e2
          obtain ⟨e3, e4⟩ := e2
          obtain ⟨f2, f4, f6, f7, f8, f9, f10, f11⟩ := of_decide_eq_true e4
          obtain ⟨m1, m2, m3⟩ := mMdD f6
          have hlenA : As.length = b - 1 := by
            have := congrArg List.length hxs
            simp at this
            omega
          have hst : st = (As.reverse ++ [Value.ref ix]) ++ t1 := by
            rw [h2]
            have := congrArg List.reverse hxs
            rw [List.reverse_reverse] at this
            rw [this]
            simp
          rw [hxs] at hM hpre
          have hstk : (F0 m pc ls (st.map (mE (mGh g)))).stack = (As.map (mE (mGh g))).reverse ++ .ref (mAl (mGh g) ix) :: t1.map (mE (mGh g)) := by
            show st.map (mE (mGh g)) = _
            rw [hst, List.map_append, List.map_append, List.map_reverse]
            simp only [List.map_cons, List.map_nil, List.append_assoc, List.singleton_append]
            rfl
          by_cases hcc : cc = 0
          · rw [if_pos hcc] at e3
            have CB : CallB R s args (mCn md.2.1) i (mD a0).1 (mD a0).2.2.1 (mD a0).2.2.2.1 none (mWs a0) (mRm d (sp1.length - sp.length) (mTot sp1 - mTot sp)) (sp1.length - sp.length) (mTot sp1 - mTot sp) (b - 1) :=
              callB_of (b - 1) hX.2.2.2.2.1 (mGood f6) (by rw [mCoW, f11]) rfl rfl (by rw [m1]; exact hX.2.2.2.2.1 _ (mNv_in _ f4)) (hX.2.2.2.2.1 _ (mML_in _ (of_decide_eq_true e3))) ⟨m3.1, m3.2, f7⟩ ⟨hR, by show 8 + ((mD a0).2.2.2.1 + 11) + 41 * d ≤ R.locals; omega⟩
            have hrun := va_runI (As := As.map (mE (mGh g))) (rest := t1.map (mE (mGh g))) (b := mAl (mGh g) ix) (g := F0 m pc ls (st.map (mE (mGh g)))) (locs := locs) (below := below) (meth := meth) (p := p) (e := e) hfix hM ⟨CB, f10, hX.2.2.2.2.1 _ (mIv_in _ f2)⟩ ⟨mBlind, hpre⟩ rfl (by rw [List.length_map]; exact hlenA) hl.2.1 hstk (hms (Nat.le_of_ble_eq_true hc)) hd hf
            exact mCallK hX e1 hlen htot hn ht hS hl hrun k T hT X
          · rw [if_neg hcc] at e3
            have CN := va_cnB (R := R) (args := args) (b - 1) hX.2.2.2.2.1 (mGood f6) (show mWs a0 = Cond.code (mD a0).1 (mD a0).2.2.1 (mD a0).2.2.2.1 none :: mTB by rw [mCoW, f11]) (rm := mRm d (sp1.length - sp.length) (mTot sp1 - mTot sp)) rfl rfl (hX.2.2.2.2.2.1.2.2.1 _ (of_decide_eq_true e3)) (by rw [m1]; exact hX.2.2.2.2.1 _ (mNv_in _ f4)) ⟨m3.1, m3.2, f7⟩ ⟨hR, by show 8 + ((mD a0).2.2.2.1 + 11) + 41 * d ≤ R.locals; omega⟩
            have hrun := va_runIN (As := As.map (mE (mGh g))) (rest := t1.map (mE (mGh g))) (b := mAl (mGh g) ix) (g := F0 m pc ls (st.map (mE (mGh g)))) (locs := locs) (below := below) (meth := meth) (p := p) (e := e) hfix hM ⟨CN, f10, hX.2.2.2.2.1 _ (mIv_in _ f2)⟩ ⟨mBlind, hpre⟩ rfl (by rw [List.length_map]; exact hlenA) hl.2.1 hstk (hms (Nat.le_of_ble_eq_true hc)) hd hf
            exact mCallK hX e1 hlen htot hn ht hS hl hrun k T hT X
        · cases h3
  | _ => simp [mCl] at h
end MS
