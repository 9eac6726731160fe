/-! returns, the entry, and the judgement that methods are proved in -/
def mRt (md : mMd) (r : mRow) (st : List Value) : Option (Prop × Option Value) := match r.1 with
  | .ireturn => (match st with
    | [.int x] => (match md.2.2.2.2.1 with
      | some .int => some (True, some (.int x))
      | some .boolean => some (x = 0 ∨ x = 1, some (.int x))
      | _ => none)
    | _ => none)
  | .lreturn => (match st with
    | [.long x] => (match md.2.2.2.2.1 with
      | some .long => some (True, some (.long x))
      | _ => none)
    | _ => none)
  | .dreturn => (match st with
    | [.double x] => (match md.2.2.2.2.1 with
      | some .double => some (True, some (.double x))
      | _ => none)
    | _ => none)
  | .areturn => (match md.2.2.2.2.1 with
    | some (.object _) => (match st with
      | [.ref x] => some (True, some (.ref x))
      | [.null] => some (True, some .null)
      | _ => none)
    | some (.array _) => (match st with
      | [.ref x] => some (True, some (.ref x))
      | _ => none)
    | _ => none)
  | .return_ => (match st with
    | [] => (match md.2.2.2.2.1 with
      | none => some (True, none)
      | _ => none)
    | _ => none)
  | _ => none
section MS
variable {g : mG} {l : Launch} {md : mMd} {p : Program} {e : Env} {R : Room} {s : State} {m : MethodId} {args : Array Value} {below : List Frame} {meth : Method} {c : Code} {n0 t0 : Nat} {Q : State → Prop}
set_option maxHeartbeats 4000000 in
theorem mRt_ok (hX : mX g md p s m args meth c n0) (hok : mOkP md) {pc : Nat} {row : mRow} {L : mLs} {st : List Value} {sp : mSh} {σ : mHp} {C : Prop} {r : Option Value} (hr : mIn md.2.2.2.2.2 pc = some row) (h : mRt md row st = some (C, r)) (hC : C) : mM g l md p e R s m args below meth c n0 t0 (MQ below (mPost g r sp σ) args s (sp.length - n0) (mTot sp - t0) (mA g)) (pc, L, st, sp, σ) := by
  obtain ⟨hd0, -, hx0⟩ := mRow_ok hok.1 hr
  obtain ⟨ins, np, a, b, cc, v, w⟩ := row
  have hx : mRx md.2.1 (md.1.name == "<init>") pc (ins, np, a, b, cc, v, w) = true := hx0
  have hd1 : decode md.2.2.1 pc = .ok (ins, np - pc) := hd0
  have hret := hX.2.2.2.2.2.2.1
  have hlocks := hX.2.2.2.2.2.2.2.1
  clear hx0 hd0 hr
  have hq : ∀ {H : Heap} {locs : List Loc}, mP g sp σ H → va_S (mA g) s.heap H locs → ∀ (t : State), t.heap = H → mP g sp σ t.heap ∧ va_F (mA g) s t := fun hP hS t ht => ⟨by rw [ht]; exact hP, hS.F ht⟩
  unfold mRt at h
  simp only at h
  split at h
  · have e1 : np = pc + 1 := of_decide_eq_true hx
    have hd := mDec hd1 e1
    split at h
    · split at h
      · rename_i hm
        simp only [Option.some.injEq, Prod.mk.injEq] at h
        obtain ⟨rfl, rfl⟩ := h
        rw [hm] at hret
        intro hn ht H locs ls hP hS hl
        exact W.iret hX.1 hX.2.1 hret (fun t ht hW => ⟨rfl, hq hP hS t ht⟩) hS.2.2 hd hlocks
      · rename_i hm
        simp only [Option.some.injEq, Prod.mk.injEq] at h
        obtain ⟨rfl, rfl⟩ := h
        rw [hm] at hret
        intro hn ht H locs ls hP hS hl
        exact W.zret hX.1 hX.2.1 hret (mNar_z (t := .boolean) rfl hC).1 (fun t ht hW => ⟨rfl, hq hP hS t ht⟩) hS.2.2 hd hlocks
      · cases h
    · cases h
  · have e1 : np = pc + 1 := of_decide_eq_true hx
    have hd := mDec hd1 e1
    split at h
    · split at h
      · rename_i hm
        simp only [Option.some.injEq, Prod.mk.injEq] at h
        obtain ⟨rfl, rfl⟩ := h
        rw [hm] at hret
        intro hn ht H locs ls hP hS hl
        exact W.lret hX.1 hX.2.1 hret (fun t ht hW => ⟨rfl, hq hP hS t ht⟩) hS.2.2 hd hlocks
      · cases h
    · cases h
  · have e1 : np = pc + 1 := of_decide_eq_true hx
    have hd := mDec hd1 e1
    split at h
    · split at h
      · rename_i hm
        simp only [Option.some.injEq, Prod.mk.injEq] at h
        obtain ⟨rfl, rfl⟩ := h
        rw [hm] at hret
        intro hn ht H locs ls hP hS hl
        exact W.dret hX.1 hX.2.1 hret (fun t ht hW => ⟨rfl, hq hP hS t ht⟩) hS.2.2 hd hlocks
      · cases h
    · cases h
  · have e1 : np = pc + 1 := of_decide_eq_true hx
    have hd := mDec hd1 e1
    split at h
    · rename_i nm hm
      rw [hm] at hret
      split at h
      · simp only [Option.some.injEq, Prod.mk.injEq] at h
        obtain ⟨rfl, rfl⟩ := h
        intro hn ht H locs ls hP hS hl
        exact W.aret hX.1 hX.2.1 hret (Or.inl ⟨_, rfl⟩) (Or.inr ⟨_, rfl⟩) (fun t ht hW => ⟨rfl, hq hP hS t ht⟩) hS.2.2 hd hlocks
      · simp only [Option.some.injEq, Prod.mk.injEq] at h
        obtain ⟨rfl, rfl⟩ := h
        intro hn ht H locs ls hP hS hl
        exact W.aret hX.1 hX.2.1 hret (Or.inl ⟨_, rfl⟩) (Or.inl rfl) (fun t ht hW => ⟨rfl, hq hP hS t ht⟩) hS.2.2 hd hlocks
      · cases h
    · rename_i nm hm
      rw [hm] at hret
      split at h
      · simp only [Option.some.injEq, Prod.mk.injEq] at h
        obtain ⟨rfl, rfl⟩ := h
        intro hn ht H locs ls hP hS hl
        exact W.aret hX.1 hX.2.1 hret (Or.inr ⟨_, rfl⟩) (Or.inr ⟨_, rfl⟩) (fun t ht hW => ⟨rfl, hq hP hS t ht⟩) hS.2.2 hd hlocks
      · cases h
    · cases h
  · have e1 : np = pc + 1 := of_decide_eq_true hx
    have hd := mDec hd1 e1
    split at h
    · split at h
      · rename_i hm
        simp only [Option.some.injEq, Prod.mk.injEq] at h
        obtain ⟨rfl, rfl⟩ := h
        rw [hm] at hret
        intro hn ht H locs ls hP hS hl
        exact W.vret hX.1 hX.2.1 hret (fun t ht hW => ⟨rfl, hq hP hS t ht⟩) hS.2.2 hd hlocks
      · cases h
    · cases h
  · cases h
end MS
/-! the judgement -/
/-- method a with arguments as at (sp, σ) returns, and Post holds of its answer and of what it leaves; d: frames below it -/
def mC (g : mG) (l : Launch) (d a : Nat) (as : List Value) (sp : mSh) (σ : mHp) (Post : Option Value → mSh → mHp → Prop) : Prop := ∃ (r : Option Value) (sp1 : mSh) (σ1 : mHp), mEv g l d a as sp σ r sp1 σ1 ∧ Post r sp1 σ1
/-- from the state cf on, the method md returns, and Post holds then -/
def mGo (g : mG) (l : Launch) (d : Nat) (md : mMd) (n0 t0 : Nat) (cf : mCf) (Post : Option Value → mSh → mHp → Prop) : Prop :=
  ∃ (r : Option Value) (sp1 : mSh) (σ1 : mHp), cf.2.2.2.1.length ≤ sp1.length ∧ mTot cf.2.2.2.1 ≤ mTot sp1 ∧ Post r sp1 σ1 ∧ ∀ (p : Program) (e : Env) (R : Room) (s : State) (m : MethodId) (args : Array Value) (below : List Frame) (meth : Method) (c : Code), mX g md p s m args meth c n0 → d ≤ R.frames → 41 * d ≤ R.locals → sp1.length - n0 ≤ R.cells → mTot sp1 - t0 ≤ R.slots → mM g l md p e R s m args below meth c n0 t0 (MQ below (mPost g r sp1 σ1) args s (sp1.length - n0) (mTot sp1 - t0) (mA g)) cf
/-- straight steps, as far as they go (at most n) -/
def mRun (md : mMd) : Nat → mCf → Option mCf
  | 0, cf => some cf
  | n + 1, (pc, L, st, sp, σ) => match mIn md.2.2.2.2.2 pc with
    | none => some (pc, L, st, sp, σ)
    | some r => (match mEx r L st sp σ with
      | none => some (pc, L, st, sp, σ)
      | some cf1 => mRun md n cf1)
section MG
variable {g : mG} {l : Launch} {d : Nat} {md : mMd} {n0 t0 : Nat} {Post : Option Value → mSh → mHp → Prop}
set_option maxHeartbeats 4000000 in
theorem mEx_len {r : mRow} {L : mLs} {st : List Value} {sp : mSh} {σ : mHp} {cf : mCf} (h : mEx r L st sp σ = some cf) : cf.2.2.2.1.length = sp.length ∧ mTot cf.2.2.2.1 = mTot sp := by
  obtain ⟨ins, np, a, b, cc, v, w⟩ := r
  cases ins with
  | iconst n => cases h; exact ⟨rfl, rfl⟩
  | bipush n => cases h; exact ⟨rfl, rfl⟩
  | sipush n => cases h; exact ⟨rfl, rfl⟩
  | ldc2_w n => cases h; exact ⟨rfl, rfl⟩
  | aconst_null => cases h; exact ⟨rfl, rfl⟩
  | goto f => cases h; exact ⟨rfl, rfl⟩
  | ldc n => simp only [mEx] at h; split at h <;> first | (cases h; exact ⟨rfl, rfl⟩) | cases h
  | lconst n => simp only [mEx] at h; split at h <;> first | (cases h; exact ⟨rfl, rfl⟩) | cases h
  | dconst n => simp only [mEx] at h; split at h <;> first | (cases h; exact ⟨rfl, rfl⟩) | cases h
  | dcmp op => simp only [mEx] at h; split at h <;> first | (cases h; exact ⟨rfl, rfl⟩) | cases h
  | ifnull f => simp only [mEx] at h; split at h <;> first | (cases h; exact ⟨rfl, rfl⟩) | cases h
  | ifnonnull f => simp only [mEx] at h; split at h <;> first | (cases h; exact ⟨rfl, rfl⟩) | cases h
  | iadd => simp only [mEx] at h; split at h <;> first | (cases h; exact ⟨rfl, rfl⟩) | cases h
  | isub => simp only [mEx] at h; split at h <;> first | (cases h; exact ⟨rfl, rfl⟩) | cases h
  | imul => simp only [mEx] at h; split at h <;> first | (cases h; exact ⟨rfl, rfl⟩) | cases h
  | iand => simp only [mEx] at h; split at h <;> first | (cases h; exact ⟨rfl, rfl⟩) | cases h
  | ior => simp only [mEx] at h; split at h <;> first | (cases h; exact ⟨rfl, rfl⟩) | cases h
  | ixor => simp only [mEx] at h; split at h <;> first | (cases h; exact ⟨rfl, rfl⟩) | cases h
  | ishl => simp only [mEx] at h; split at h <;> first | (cases h; exact ⟨rfl, rfl⟩) | cases h
  | ishr => simp only [mEx] at h; split at h <;> first | (cases h; exact ⟨rfl, rfl⟩) | cases h
  | ladd => simp only [mEx] at h; split at h <;> first | (cases h; exact ⟨rfl, rfl⟩) | cases h
  | lmul => simp only [mEx] at h; split at h <;> first | (cases h; exact ⟨rfl, rfl⟩) | cases h
  | land => simp only [mEx] at h; split at h <;> first | (cases h; exact ⟨rfl, rfl⟩) | cases h
  | lor => simp only [mEx] at h; split at h <;> first | (cases h; exact ⟨rfl, rfl⟩) | cases h
  | lshl => simp only [mEx] at h; split at h <;> first | (cases h; exact ⟨rfl, rfl⟩) | cases h
  | lshr => simp only [mEx] at h; split at h <;> first | (cases h; exact ⟨rfl, rfl⟩) | cases h
  | lushr => simp only [mEx] at h; split at h <;> first | (cases h; exact ⟨rfl, rfl⟩) | cases h
  | lcmp => simp only [mEx] at h; split at h <;> first | (cases h; exact ⟨rfl, rfl⟩) | cases h
  | i2l => simp only [mEx] at h; split at h <;> first | (cases h; exact ⟨rfl, rfl⟩) | cases h
  | l2i => simp only [mEx] at h; split at h <;> first | (cases h; exact ⟨rfl, rfl⟩) | cases h
  | i2b => simp only [mEx] at h; split at h <;> first | (cases h; exact ⟨rfl, rfl⟩) | cases h
  | i2c => simp only [mEx] at h; split at h <;> first | (cases h; exact ⟨rfl, rfl⟩) | cases h
  | i2d => simp only [mEx] at h; split at h <;> first | (cases h; exact ⟨rfl, rfl⟩) | cases h
  | i2f => simp only [mEx] at h; split at h <;> first | (cases h; exact ⟨rfl, rfl⟩) | cases h
  | l2d => simp only [mEx] at h; split at h <;> first | (cases h; exact ⟨rfl, rfl⟩) | cases h
  | l2f => simp only [mEx] at h; split at h <;> first | (cases h; exact ⟨rfl, rfl⟩) | cases h
  | d2l => simp only [mEx] at h; split at h <;> first | (cases h; exact ⟨rfl, rfl⟩) | cases h
  | f2l => simp only [mEx] at h; split at h <;> first | (cases h; exact ⟨rfl, rfl⟩) | cases h
  | dneg => simp only [mEx] at h; split at h <;> first | (cases h; exact ⟨rfl, rfl⟩) | cases h
  | dup => simp only [mEx] at h; split at h <;> first | (split at h <;> first | (cases h; exact ⟨rfl, rfl⟩) | cases h) | cases h
  | dup2 => simp only [mEx] at h; split at h <;> first | (split at h <;> first | (cases h; exact ⟨rfl, rfl⟩) | cases h) | cases h
  | pop => simp only [mEx] at h; split at h <;> first | (split at h <;> first | (cases h; exact ⟨rfl, rfl⟩) | cases h) | cases h
  | iload i => simp only [mEx, mLdI] at h; split at h <;> first | (cases h; exact ⟨rfl, rfl⟩) | cases h
  | iload_n i => simp only [mEx, mLdI] at h; split at h <;> first | (cases h; exact ⟨rfl, rfl⟩) | cases h
  | lload i => simp only [mEx, mLdL] at h; split at h <;> first | (cases h; exact ⟨rfl, rfl⟩) | cases h
  | lload_n i => simp only [mEx, mLdL] at h; split at h <;> first | (cases h; exact ⟨rfl, rfl⟩) | cases h
  | fload i => simp only [mEx, mLdF] at h; split at h <;> first | (cases h; exact ⟨rfl, rfl⟩) | cases h
  | dload i => simp only [mEx, mLdD] at h; split at h <;> first | (cases h; exact ⟨rfl, rfl⟩) | cases h
  | dload_n i => simp only [mEx, mLdD] at h; split at h <;> first | (cases h; exact ⟨rfl, rfl⟩) | cases h
  | aload i => simp only [mEx, mLdA] at h; split at h <;> first | (cases h; exact ⟨rfl, rfl⟩) | cases h
  | aload_n i => simp only [mEx, mLdA] at h; split at h <;> first | (cases h; exact ⟨rfl, rfl⟩) | cases h
  | istore i => simp only [mEx, mStI] at h; split at h <;> first | (obtain ⟨L1, h1, -⟩ := mSet_spec h; cases h1; exact ⟨rfl, rfl⟩) | cases h
  | istore_n i => simp only [mEx, mStI] at h; split at h <;> first | (obtain ⟨L1, h1, -⟩ := mSet_spec h; cases h1; exact ⟨rfl, rfl⟩) | cases h
  | lstore i => simp only [mEx, mStL2] at h; split at h <;> first | (obtain ⟨L1, h1, -⟩ := mSet2_spec h; cases h1; exact ⟨rfl, rfl⟩) | cases h
  | lstore_n i => simp only [mEx, mStL2] at h; split at h <;> first | (obtain ⟨L1, h1, -⟩ := mSet2_spec h; cases h1; exact ⟨rfl, rfl⟩) | cases h
  | fstore i => simp only [mEx, mStF] at h; split at h <;> first | (obtain ⟨L1, h1, -⟩ := mSet_spec h; cases h1; exact ⟨rfl, rfl⟩) | cases h
  | dstore i => simp only [mEx, mStD] at h; split at h <;> first | (obtain ⟨L1, h1, -⟩ := mSet2_spec h; cases h1; exact ⟨rfl, rfl⟩) | cases h
  | dstore_n i => simp only [mEx, mStD] at h; split at h <;> first | (obtain ⟨L1, h1, -⟩ := mSet2_spec h; cases h1; exact ⟨rfl, rfl⟩) | cases h
  | astore i => simp only [mEx, mStA] at h; split at h <;> first | (obtain ⟨L1, h1, -⟩ := mSet_spec h; cases h1; exact ⟨rfl, rfl⟩) | cases h
  | astore_n i => simp only [mEx, mStA] at h; split at h <;> first | (obtain ⟨L1, h1, -⟩ := mSet_spec h; cases h1; exact ⟨rfl, rfl⟩) | cases h
  | iinc i n => simp only [mEx] at h; split at h <;> first | (obtain ⟨L1, h1, -⟩ := mSet_spec h; cases h1; exact ⟨rfl, rfl⟩) | cases h
  | arraylength =>
    simp only [mEx] at h
    split at h
    · split at h
      · rename_i kk n r hsp
        cases hb : (Nat.ble 100 kk && Nat.ble kk 103) with
        | false => rw [hb] at h; cases h
        | true => rw [hb] at h; cases h; exact ⟨rfl, rfl⟩
      · cases h
    · cases h
  | getfield i =>
    simp only [mEx, mGf] at h
    split at h
    · split at h
      · rename_i ci n r hsp
        cases hb : (Nat.beq ci a && Nat.blt b n) with
        | false => rw [hb] at h; cases h
        | true =>
          rw [hb] at h
          simp only [cond_true] at h
          split at h <;> first | (cases h; exact ⟨rfl, rfl⟩) | (split at h <;> (cases h; exact ⟨rfl, rfl⟩)) | cases h
      · cases h
    · cases h
  | putfield i =>
    have key : ∀ {ix : Nat} {o : Option Nat} {t : List Value}, mSpS sp ix b o (fun sp1 => some (np, L, t, sp1, σ)) = some cf → cf.2.2.2.1.length = sp.length ∧ mTot cf.2.2.2.1 = mTot sp := by
      intro ix o t h
      obtain ⟨sh, g1, g2, g3⟩ := mSpS_spec h
      cases g3
      obtain ⟨s1, s2, s3⟩ := sh
      exact ⟨by simp, mTot_set g1⟩
    simp only [mEx, mPf] at h
    split at h <;> (first
      | cases h
      | (split at h <;> first
        | cases h
        | (rename_i ix t
           cases hh : mHas sp ix a b with
           | false => rw [hh] at h; cases h
           | true => rw [hh] at h; simp only [cond_true] at h; first | (cases h; exact ⟨rfl, rfl⟩) | exact key h)))
  | _ => simp [mEx] at h
theorem mGo_step {pc : Nat} {L : mLs} {st : List Value} {sp : mSh} {σ : mHp} {r : mRow} {cf : mCf} (hok : mOkP md) (hr : mIn md.2.2.2.2.2 pc = some r) (h : mEx r L st sp σ = some cf) (k : mGo g l d md n0 t0 cf Post) : mGo g l d md n0 t0 (pc, L, st, sp, σ) Post := by
  obtain ⟨v, sp1, σ1, h1, h2, h3, h4⟩ := k
  obtain ⟨e1, e2⟩ := mEx_len h
  refine ⟨v, sp1, σ1, by rw [e1] at h1; exact h1, by rw [e2] at h2; exact h2, h3, fun p e R s m args below meth c hX a1 a2 a3 a4 => ?_⟩
  exact mEx_ok hX hok hr h (h4 p e R s m args below meth c hX a1 a2 a3 a4)
theorem mGo_run {n : Nat} : ∀ {cf cf1 : mCf}, mOkP md → mRun md n cf = some cf1 → mGo g l d md n0 t0 cf1 Post → mGo g l d md n0 t0 cf Post := by
  induction n with
  | zero => intro cf cf1 _ h k; cases h; exact k
  | succ n ih =>
    intro cf cf1 hok h k
    obtain ⟨pc, L, st, sp, σ⟩ := cf
    simp only [mRun] at h
    split at h
    · cases h; exact k
    · rename_i r hr
      split at h
      · cases h; exact k
      · rename_i cf2 hx
        exact mGo_step hok hr hx (ih hok h k)
theorem mSd_len {r : mRow} {L : mLs} {st : List Value} {sp : mSh} {σ : mHp} {C : Prop} {cf : mCf} (h : mSd g r L st sp σ = some (C, cf)) : cf.2.2.2.1 = sp := by
  obtain ⟨ins, np, a, b, cc, v, w⟩ := r
  cases ins with
  | iaload => simp only [mSd] at h; split at h <;> first | (cases h <;> rfl) | (split at h <;> (cases h <;> rfl))
  | laload => simp only [mSd] at h; split at h <;> first | (cases h <;> rfl) | (split at h <;> (cases h <;> rfl))
  | daload => simp only [mSd] at h; split at h <;> first | (cases h <;> rfl) | (split at h <;> (cases h <;> rfl))
  | iastore => simp only [mSd] at h; split at h <;> first | (cases h <;> rfl) | (split at h <;> (cases h <;> rfl))
  | lastore => simp only [mSd] at h; split at h <;> first | (cases h <;> rfl) | (split at h <;> (cases h <;> rfl))
  | dastore => simp only [mSd] at h; split at h <;> first | (cases h <;> rfl) | (split at h <;> (cases h <;> rfl))
  | aaload => simp only [mSd] at h; split at h <;> first | (cases h <;> rfl) | (split at h <;> first | (cases h <;> rfl) | (split at h <;> (cases h <;> rfl)))
  | lrem => simp only [mSd] at h; split at h <;> (cases h <;> rfl)
  | f2d => simp only [mSd] at h; split at h <;> (cases h <;> rfl)
  | d2f => simp only [mSd] at h; split at h <;> (cases h <;> rfl)
  | fdiv => simp only [mSd] at h; split at h <;> (cases h <;> rfl)
  | ddiv => simp only [mSd] at h; split at h <;> (cases h <;> rfl)
  | dadd => simp only [mSd] at h; split at h <;> (cases h <;> rfl)
  | dsub => simp only [mSd] at h; split at h <;> (cases h <;> rfl)
  | ldc i => simp only [mSd] at h; split at h <;> (cases h <;> rfl)
  | putfield i =>
    simp only [mSd] at h
    split at h
    · split at h
      · rename_i x ix t
        cases hh : mHas sp ix a b with
        | false => rw [hh] at h; cases h
        | true =>
          rw [hh] at h
          simp only [cond_true, Option.some.injEq, Prod.mk.injEq] at h
          obtain ⟨-, rfl⟩ := h
          rfl
      · cases h
    · cases h
  | _ => simp [mSd] at h
def mSdF (g : mG) (md : mMd) (cf : mCf) : Option (Prop × mCf) := match cf with
  | (pc, L, st, sp, σ) => match mIn md.2.2.2.2.2 pc with
    | none => none
    | some r => mSd g r L st sp σ
/-- a step with a condition -/
theorem mGo_side {cf cf1 : mCf} {C : Prop} (hok : mOkP md) (h : mSdF g md cf = some (C, cf1)) (hC : C) (k : mGo g l d md n0 t0 cf1 Post) : mGo g l d md n0 t0 cf Post := by
  obtain ⟨pc, L, st, sp, σ⟩ := cf
  unfold mSdF at h
  simp only at h
  split at h
  · cases h
  · rename_i r hr
    obtain ⟨v, sp1, σ1, h1, h2, h3, h4⟩ := k
    have e1 := mSd_len h
    refine ⟨v, sp1, σ1, by rw [e1] at h1; exact h1, by rw [e1] at h2; exact h2, h3, fun p e R s m args below meth c hX a1 a2 a3 a4 => ?_⟩
    exact mSd_ok hX hok hr h hC (h4 p e R s m args below meth c hX a1 a2 a3 a4)
theorem mBn_len {r : mRow} {L : mLs} {st : List Value} {sp : mSh} {σ : mHp} {C : Prop} {c1 c2 : mCf} (h : mBn r L st sp σ = some (C, c1, c2)) : c1.2.2.2.1 = sp ∧ c2.2.2.2.1 = sp := by
  obtain ⟨ins, np, a, b, cc, v, w⟩ := r
  cases ins with
  | if_icmp cd f => simp only [mBn] at h; split at h <;> first | cases h | (cases cd <;> (simp only [Option.some.injEq, Prod.mk.injEq] at h; obtain ⟨-, rfl, rfl⟩ := h; exact ⟨rfl, rfl⟩))
  | ifCond cd f => simp only [mBn] at h; split at h <;> first | cases h | (cases cd <;> (simp only [Option.some.injEq, Prod.mk.injEq] at h; obtain ⟨-, rfl, rfl⟩ := h; exact ⟨rfl, rfl⟩))
  | _ => simp [mBn] at h
def mBnF (md : mMd) (cf : mCf) : Option (Prop × mCf × mCf) := match cf with
  | (pc, L, st, sp, σ) => match mIn md.2.2.2.2.2 pc with
    | none => none
    | some r => mBn r L st sp σ
/-- a branch -/
theorem mGo_if {cf c1 c2 : mCf} {C : Prop} (hok : mOkP md) (h : mBnF md cf = some (C, c1, c2)) (k1 : C → mGo g l d md n0 t0 c1 Post) (k2 : ¬ C → mGo g l d md n0 t0 c2 Post) : mGo g l d md n0 t0 cf Post := by
  obtain ⟨pc, L, st, sp, σ⟩ := cf
  unfold mBnF at h
  simp only at h
  split at h
  · cases h
  · rename_i r hr
    obtain ⟨e1, e2⟩ := mBn_len h
    by_cases hc : C
    · obtain ⟨v, sp1, σ1, h1, h2, h3, h4⟩ := k1 hc
      refine ⟨v, sp1, σ1, by rw [e1] at h1; exact h1, by rw [e1] at h2; exact h2, h3, fun p e R s m args below meth c hX a1 a2 a3 a4 => ?_⟩
      exact mBn_ok hX hok hr h (fun _ => h4 p e R s m args below meth c hX a1 a2 a3 a4) (fun q => absurd hc q)
    · obtain ⟨v, sp1, σ1, h1, h2, h3, h4⟩ := k2 hc
      refine ⟨v, sp1, σ1, by rw [e2] at h1; exact h1, by rw [e2] at h2; exact h2, h3, fun p e R s m args below meth c hX a1 a2 a3 a4 => ?_⟩
      exact mBn_ok hX hok hr h (fun q => absurd q hc) (fun _ => h4 p e R s m args below meth c hX a1 a2 a3 a4)
def mSwF (md : mMd) (cf : mCf) : Option (Int32 × List (Int32 × Nat) × Nat × List Value) := match cf with
  | (pc, _, st, _, _) => match mIn md.2.2.2.2.2 pc with
    | none => none
    | some r => mSw pc r st
/-- a switch -/
theorem mGo_sw {pc : Nat} {L : mLs} {st t : List Value} {sp : mSh} {σ : mHp} {x : Int32} {ks : List (Int32 × Nat)} {df : Nat} (hok : mOkP md) (h : mSwF md (pc, L, st, sp, σ) = some (x, ks, df, t)) (k : mSwG (fun q => mGo g l d md n0 t0 (q, L, t, sp, σ) Post) x ks df) : mGo g l d md n0 t0 (pc, L, st, sp, σ) Post := by
  unfold mSwF at h
  simp only at h
  split at h
  · cases h
  · rename_i r hr
    have k := mSwG_at k
    obtain ⟨v, sp1, σ1, h1, h2, h3, h4⟩ := k
    refine ⟨v, sp1, σ1, h1, h2, h3, fun p e R s m args below meth c hX a1 a2 a3 a4 => ?_⟩
    exact mSw_okT hX hok hr h (h4 p e R s m args below meth c hX a1 a2 a3 a4)
def mRtF (md : mMd) (cf : mCf) : Option (Prop × Option Value) := match cf with
  | (pc, _, st, _, _) => match mIn md.2.2.2.2.2 pc with
    | none => none
    | some r => mRt md r st
/-- a return -/
theorem mGo_ret {pc : Nat} {L : mLs} {st : List Value} {sp : mSh} {σ : mHp} {C : Prop} {r : Option Value} (hok : mOkP md) (h : mRtF md (pc, L, st, sp, σ) = some (C, r)) (hC : C) (hp : Post r sp σ) : mGo g l d md n0 t0 (pc, L, st, sp, σ) Post := by
  unfold mRtF at h
  simp only at h
  split at h
  · cases h
  · rename_i row hr
    exact ⟨r, sp, σ, Nat.le_refl _, Nat.le_refl _, hp, fun p e R s m args below meth c hX a1 a2 a3 a4 => mRt_ok hX hok hr h hC⟩
def mClF (md : mMd) (cf : mCf) : Option (Nat × List Value × Nat × List Value) := match cf with
  | (pc, _, st, sp, _) => match mIn md.2.2.2.2.2 pc with
    | none => none
    | some r => (match r with
      | (ins, np, a0, b, c, v, w) => (match mCl (ins, np, a0, b, c, v, w) st sp with
        | none => none
        | some (a, as, t) => some (a, as, np, t)))
/-- a call -/
theorem mGo_call {pc np a d1 : Nat} {L : mLs} {st as t : List Value} {sp : mSh} {σ : mHp} {Pc : Option Value → mSh → mHp → Prop} (hok : mOkP md) (h : mClF md (pc, L, st, sp, σ) = some (a, as, np, t)) (hd : d1 + 1 ≤ d) (hc : mC g l d1 a as sp σ Pc) (k : ∀ (r : Option Value) (sp1 : mSh) (σ1 : mHp), Pc r sp1 σ1 → mGo g l d md n0 t0 (np, L, mPu r t, sp1, σ1) Post) : mGo g l d md n0 t0 (pc, L, st, sp, σ) Post := by
  unfold mClF at h
  simp only at h
  split at h
  · cases h
  · rename_i row hr
    obtain ⟨ins, np1, a0, b, cc, v, w⟩ := row
    split at h
    · cases h
    · rename_i a1 as1 t1 hcl
      simp only [Option.some.injEq, Prod.mk.injEq] at h
      obtain ⟨rfl, rfl, rfl, rfl⟩ := h
      obtain ⟨r, sp2, σ2, hev, hpc⟩ := hc
      obtain ⟨v1, sp1, σ1, h1, h2, h3, h4⟩ := k r sp2 σ2 hpc
      have h1 : sp2.length ≤ sp1.length := h1
      have h2 : mTot sp2 ≤ mTot sp1 := h2
      refine ⟨v1, sp1, σ1, Nat.le_trans hev.1 h1, Nat.le_trans hev.2.1 h2, h3, fun p e R s m args below meth c hX b1 b2 b3 b4 => ?_⟩
      exact mCl_ok hX hok hr hcl hev (by omega) (by omega) (by omega) (by omega) (h4 p e R s m args below meth c hX b1 b2 b3 b4)
end MG
