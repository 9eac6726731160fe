/-! straight steps -/
def mNth : mSh → Nat → Option (Nat × Nat × List (Option Nat))
  | [], _ => none
  | a :: _, 0 => some a
  | _ :: t, i + 1 => mNth t i
theorem mNth_eq : ∀ (sp : mSh) (i : Nat), mNth sp i = sp[i]? := by
  intro sp
  induction sp with
  | nil => intro i; simp [mNth]
  | cons a t ih => intro i; cases i with
    | zero => rfl
    | succ i => simpa [mNth] using ih i
/-- a cell of the small machine, by its number -/
def mSpA (sp : mSh) (i : Nat) : Option (Nat × Nat × List (Option Nat)) := bif Nat.blt i 1000000 then mNth sp i else none
theorem mSpA_at {sp : mSh} {i : Nat} {sh : Nat × Nat × List (Option Nat)} (h : mSpA sp i = some sh) : sp[i]? = some sh ∧ i < 1000000 := by
  unfold mSpA at h
  cases hb : Nat.blt i 1000000 with
  | true => rw [hb] at h; exact ⟨by rw [← mNth_eq]; exact h, by simpa [Nat.blt_eq] using hb⟩
  | false => rw [hb] at h; cases h
theorem mAl_lt {h i : Nat} (hi : i < 1000000) : mAl h i = h + i := if_pos hi
def mRn : List (Option Nat) → Nat → Option Nat
  | [], _ => none
  | a :: _, 0 => a
  | _ :: t, k + 1 => mRn t k
theorem mRn_eq : ∀ (r : List (Option Nat)) (k : Nat), mRn r k = r.getD k none := by
  intro r
  induction r with
  | nil => intro k; cases k <;> rfl
  | cons a t ih => intro k; cases k with
    | zero => rfl
    | succ k => simpa [mRn] using ih k
def mRv (o : Option Nat) : Value := match o with
  | none => .null
  | some j => .ref j
/-- a reference is set in a cell -/
def mRs {β : Type} : List (Option Nat) → Nat → Option Nat → (List (Option Nat) → Option β) → Option β
  | [], _, _, _ => none
  | _ :: t, 0, v, k => k (v :: t)
  | a :: t, i + 1, v, k => mRs t i v (fun t' => k (a :: t'))
def mSpS {β : Type} : mSh → Nat → Nat → Option Nat → (mSh → Option β) → Option β
  | [], _, _, _, _ => none
  | a :: t, 0, f, v, k => mRs a.2.2 f v (fun r' => k ((a.1, a.2.1, r') :: t))
  | a :: t, i + 1, f, v, k => mSpS t i f v (fun t' => k (a :: t'))
theorem mRs_spec {β : Type} : ∀ {r : List (Option Nat)} {i : Nat} {v : Option Nat} {k : List (Option Nat) → Option β} {b : β}, mRs r i v k = some b → i < r.length ∧ k (r.set i v) = some b := by
  intro r
  induction r with
  | nil => intro i v k b h; simp [mRs] at h
  | cons a t ih =>
    intro i v k b h
    cases i with
    | zero => exact ⟨by simp, h⟩
    | succ i => obtain ⟨h1, h2⟩ := ih h; exact ⟨by simp; omega, h2⟩
theorem mSpS_spec {β : Type} : ∀ {sp : mSh} {i f : Nat} {v : Option Nat} {k : mSh → Option β} {b : β}, mSpS sp i f v k = some b → ∃ sh, sp[i]? = some sh ∧ f < sh.2.2.length ∧ k (sp.set i (sh.1, sh.2.1, sh.2.2.set f v)) = some b := by
  intro sp
  induction sp with
  | nil => intro i f v k b h; simp [mSpS] at h
  | cons a t ih =>
    intro i f v k b h
    cases i with
    | zero => obtain ⟨h1, h2⟩ := mRs_spec h; exact ⟨a, by simp, h1, h2⟩
    | succ i => obtain ⟨sh, h1, h2, h3⟩ := ih h; exact ⟨sh, by simpa using h1, h2, h3⟩
def mLdI (np : Nat) (L : mLs) (st : List Value) (sp : mSh) (σ : mHp) (i : Nat) : Option mCf := match mGet L i with
  | some (.int x) => some (np, L, .int x :: st, sp, σ)
  | _ => none
def mLdL (np : Nat) (L : mLs) (st : List Value) (sp : mSh) (σ : mHp) (i : Nat) : Option mCf := match mGet L i with
  | some (.long x) => some (np, L, .long x :: st, sp, σ)
  | _ => none
def mLdF (np : Nat) (L : mLs) (st : List Value) (sp : mSh) (σ : mHp) (i : Nat) : Option mCf := match mGet L i with
  | some (.float x) => some (np, L, .float x :: st, sp, σ)
  | _ => none
def mLdD (np : Nat) (L : mLs) (st : List Value) (sp : mSh) (σ : mHp) (i : Nat) : Option mCf := match mGet L i with
  | some (.double x) => some (np, L, .double x :: st, sp, σ)
  | _ => none
def mLdA (np : Nat) (L : mLs) (st : List Value) (sp : mSh) (σ : mHp) (i : Nat) : Option mCf := match mGet L i with
  | some (.ref x) => some (np, L, .ref x :: st, sp, σ)
  | some .null => some (np, L, .null :: st, sp, σ)
  | _ => none
def mStI (np : Nat) (L : mLs) (st : List Value) (sp : mSh) (σ : mHp) (i : Nat) : Option mCf := match st with
  | .int x :: t => mSet L i (.int x) (fun L1 => some (np, L1, t, sp, σ))
  | _ => none
def mStF (np : Nat) (L : mLs) (st : List Value) (sp : mSh) (σ : mHp) (i : Nat) : Option mCf := match st with
  | .float x :: t => mSet L i (.float x) (fun L1 => some (np, L1, t, sp, σ))
  | _ => none
def mStL2 (np : Nat) (L : mLs) (st : List Value) (sp : mSh) (σ : mHp) (i : Nat) : Option mCf := match st with
  | .long x :: t => mSet2 L i (.long x) (fun L1 => some (np, L1, t, sp, σ))
  | _ => none
def mStD (np : Nat) (L : mLs) (st : List Value) (sp : mSh) (σ : mHp) (i : Nat) : Option mCf := match st with
  | .double x :: t => mSet2 L i (.double x) (fun L1 => some (np, L1, t, sp, σ))
  | _ => none
def mStA (np : Nat) (L : mLs) (st : List Value) (sp : mSh) (σ : mHp) (i : Nat) : Option mCf := match st with
  | .ref x :: t => mSet L i (.ref x) (fun L1 => some (np, L1, t, sp, σ))
  | .null :: t => mSet L i .null (fun L1 => some (np, L1, t, sp, σ))
  | _ => none
def mGf (np a b c : Nat) (L : mLs) (st : List Value) (sp : mSh) (σ : mHp) : Option mCf := match st with
  | .ref i :: t => match mSpA sp i with
    | some (ci, n, r) => bif Nat.beq ci a && Nat.blt b n then (match c with
      | 0 => some (np, L, .int (σ.1 i b) :: t, sp, σ)
      | 1 => some (np, L, .long (σ.2.1 i b) :: t, sp, σ)
      | 2 => (match mRn r b with
        | none => some (np, L, .null :: t, sp, σ)
        | some j => some (np, L, .ref j :: t, sp, σ))
      | 3 => some (np, L, .int (σ.1 i b) :: t, sp, σ)
      | _ => none) else none
    | none => none
  | _ => none
/-- the cell is there, of the class and with the field -/
def mHas (sp : mSh) (i a b : Nat) : Bool := match mSpA sp i with
  | some (ci, n, _) => Nat.beq ci a && Nat.blt b n
  | none => false
def mPf (np a b c : Nat) (L : mLs) (st : List Value) (sp : mSh) (σ : mHp) : Option mCf := match c with
  | 0 => (match st with
    | .int x :: .ref i :: t => bif mHas sp i a b then some (np, L, t, sp, mWI σ i b x) else none
    | _ => none)
  | 10 => (match st with
    | .int x :: .ref i :: t => bif mHas sp i a b then some (np, L, t, sp, mWI σ i b x) else none
    | _ => none)
  | 1 => (match st with
    | .long x :: .ref i :: t => bif mHas sp i a b then some (np, L, t, sp, mWL σ i b x) else none
    | _ => none)
  | 2 => (match st with
    | .ref j :: .ref i :: t => bif mHas sp i a b then mSpS sp i b (some j) (fun sp1 => some (np, L, t, sp1, σ)) else none
    | .null :: .ref i :: t => bif mHas sp i a b then mSpS sp i b none (fun sp1 => some (np, L, t, sp1, σ)) else none
    | _ => none)
  | 12 => (match st with
    | .ref j :: .ref i :: t => bif mHas sp i a b then mSpS sp i b (some j) (fun sp1 => some (np, L, t, sp1, σ)) else none
    | _ => none)
  | _ => none
def mEx (r : mRow) (L : mLs) (st : List Value) (sp : mSh) (σ : mHp) : Option mCf := match r with
  | (ins, np, a, b, c, v, w) => match ins with
    | .iconst _ => some (np, L, .int v :: st, sp, σ)
    | .bipush _ => some (np, L, .int v :: st, sp, σ)
    | .sipush _ => some (np, L, .int v :: st, sp, σ)
    | .ldc _ => (match a with
      | 0 => some (np, L, .int v :: st, sp, σ)
      | _ => none)
    | .ldc2_w _ => some (np, L, .long w :: st, sp, σ)
    | .lconst n => (match n with
      | ⟨0, _⟩ => some (np, L, .long 0 :: st, sp, σ)
      | ⟨_, _⟩ => some (np, L, .long 1 :: st, sp, σ))
    | .dconst n => (match n with
      | ⟨0, _⟩ => some (np, L, .double FP.dconst0 :: st, sp, σ)
      | ⟨_, _⟩ => none)
    | .aconst_null => some (np, L, .null :: st, sp, σ)
    | .iload i => mLdI np L st sp σ i
    | .iload_n i => mLdI np L st sp σ i.val
    | .lload i => mLdL np L st sp σ i
    | .lload_n i => mLdL np L st sp σ i.val
    | .fload i => mLdF np L st sp σ i
    | .dload i => mLdD np L st sp σ i
    | .dload_n i => mLdD np L st sp σ i.val
    | .aload i => mLdA np L st sp σ i
    | .aload_n i => mLdA np L st sp σ i.val
    | .istore i => mStI np L st sp σ i
    | .istore_n i => mStI np L st sp σ i.val
    | .lstore i => mStL2 np L st sp σ i
    | .lstore_n i => mStL2 np L st sp σ i.val
    | .fstore i => mStF np L st sp σ i
    | .dstore i => mStD np L st sp σ i
    | .dstore_n i => mStD np L st sp σ i.val
    | .astore i => mStA np L st sp σ i
    | .astore_n i => mStA np L st sp σ i.val
    | .iinc i _ => (match mGet L i with
      | some (.int x) => mSet L i (.int (x + v)) (fun L1 => some (np, L1, st, sp, σ))
      | _ => none)
    | .dcmp op => (match st with
      | .double y :: .double x :: t => some (np, L, .int (Op.cmpValue (FP.dcmp x y) op) :: t, sp, σ)
      | _ => none)
    | .dup => (match st with
      | v1 :: t => (match v1.category with
        | 1 => some (np, L, v1 :: v1 :: t, sp, σ)
        | _ => none)
      | _ => none)
    | .dup2 => (match st with
      | v1 :: v2 :: t => (match v1.category, v2.category with
        | 1, 1 => some (np, L, v1 :: v2 :: v1 :: v2 :: t, sp, σ)
        | _, _ => none)
      | _ => none)
    | .pop => (match st with
      | v1 :: t => (match v1.category with
        | 1 => some (np, L, t, sp, σ)
        | _ => none)
      | _ => none)
    | .goto _ => some (a, L, st, sp, σ)
    | .ifnull _ => (match st with
      | .ref _ :: t => some (np, L, t, sp, σ)
      | .null :: t => some (a, L, t, sp, σ)
      | _ => none)
    | .ifnonnull _ => (match st with
      | .ref _ :: t => some (a, L, t, sp, σ)
      | .null :: t => some (np, L, t, sp, σ)
      | _ => none)
    | .getfield _ => mGf np a b c L st sp σ
    | .putfield _ => mPf np a b c L st sp σ
    | .arraylength => (match st with
      | .ref i :: t => (match mSpA sp i with
        | some (k, n, _) => bif Nat.ble 100 k && Nat.ble k 103 then some (np, L, .int (nI n) :: t, sp, σ) else none
        | none => none)
      | _ => none)
    | .iadd => (match st with
      | .int y :: .int x :: t => some (np, L, .int (x + y) :: t, sp, σ)
      | _ => none)
    | .isub => (match st with
      | .int y :: .int x :: t => some (np, L, .int (x - y) :: t, sp, σ)
      | _ => none)
    | .imul => (match st with
      | .int y :: .int x :: t => some (np, L, .int (x * y) :: t, sp, σ)
      | _ => none)
    | .iand => (match st with
      | .int y :: .int x :: t => some (np, L, .int (x &&& y) :: t, sp, σ)
      | _ => none)
    | .ior => (match st with
      | .int y :: .int x :: t => some (np, L, .int (x ||| y) :: t, sp, σ)
      | _ => none)
    | .ixor => (match st with
      | .int y :: .int x :: t => some (np, L, .int (x ^^^ y) :: t, sp, σ)
      | _ => none)
    | .ishl => (match st with
      | .int y :: .int x :: t => some (np, L, .int (x <<< (y &&& 31)) :: t, sp, σ)
      | _ => none)
    | .ishr => (match st with
      | .int y :: .int x :: t => some (np, L, .int (x >>> (y &&& 31)) :: t, sp, σ)
      | _ => none)
    | .ladd => (match st with
      | .long y :: .long x :: t => some (np, L, .long (x + y) :: t, sp, σ)
      | _ => none)
    | .lmul => (match st with
      | .long y :: .long x :: t => some (np, L, .long (x * y) :: t, sp, σ)
      | _ => none)
    | .land => (match st with
      | .long y :: .long x :: t => some (np, L, .long (x &&& y) :: t, sp, σ)
      | _ => none)
    | .lor => (match st with
      | .long y :: .long x :: t => some (np, L, .long (x ||| y) :: t, sp, σ)
      | _ => none)
    | .lshl => (match st with
      | .int y :: .long x :: t => some (np, L, .long (x <<< (y.toInt64 &&& 63)) :: t, sp, σ)
      | _ => none)
    | .lshr => (match st with
      | .int y :: .long x :: t => some (np, L, .long (x >>> (y.toInt64 &&& 63)) :: t, sp, σ)
      | _ => none)
    | .lushr => (match st with
      | .int y :: .long x :: t => some (np, L, .long ((x.toUInt64 >>> (y.toInt64.toUInt64 &&& Int64.toUInt64 63)).toInt64) :: t, sp, σ)
      | _ => none)
    | .lcmp => (match st with
      | .long y :: .long x :: t => some (np, L, .int (lg_cmp x y) :: t, sp, σ)
      | _ => none)
    | .i2l => (match st with
      | .int x :: t => some (np, L, .long x.toInt64 :: t, sp, σ)
      | _ => none)
    | .l2i => (match st with
      | .long x :: t => some (np, L, .int x.toInt32 :: t, sp, σ)
      | _ => none)
    | .i2b => (match st with
      | .int x :: t => some (np, L, .int x.toInt8.toInt32 :: t, sp, σ)
      | _ => none)
    | .i2c => (match st with
      | .int x :: t => some (np, L, .int (x.toUInt32 % 65536).toInt32 :: t, sp, σ)
      | _ => none)
    | .i2d => (match st with
      | .int x :: t => some (np, L, .double (FP.i2d x) :: t, sp, σ)
      | _ => none)
    | .i2f => (match st with
      | .int x :: t => some (np, L, .float (FP.i2f x) :: t, sp, σ)
      | _ => none)
    | .l2d => (match st with
      | .long x :: t => some (np, L, .double (FP.l2d x) :: t, sp, σ)
      | _ => none)
    | .l2f => (match st with
      | .long x :: t => some (np, L, .float (FP.l2f x) :: t, sp, σ)
      | _ => none)
    | .d2l => (match st with
      | .double x :: t => some (np, L, .long (FP.d2l x) :: t, sp, σ)
      | _ => none)
    | .f2l => (match st with
      | .float x :: t => some (np, L, .long (FP.f2l x) :: t, sp, σ)
      | _ => none)
    | .dneg => (match st with
      | .double x :: t => some (np, L, .double (FP.dneg x) :: t, sp, σ)
      | _ => none)
    | _ => none
/-- what holds at a method's entry, and of its code -/
def mX (g : mG) (md : mMd) (p : Program) (s : State) (m : MethodId) (args : Array Value) (meth : Method) (c : Code) (n0 : Nat) : Prop :=
  p.tables.exec = Jvm.exec ∧ c.code = md.2.2.1 ∧ c.maxLocals = md.2.2.2.1 ∧ s.vm.findClass (mCn md.2.1) = some m.cls ∧ (∀ w ∈ mTB, w.before args s = true) ∧ mK g s ∧ meth.sig.returnType = md.2.2.2.2.1 ∧ meth.locks = false ∧ s.heap.size = mGh g + n0 ∧ (∀ q : Nat, q < mGh g → s.heap[q]? = (mGH g)[q]?) ∧ meth.name = md.1.name
/-- from a state of the small machine on, the machine comes to Q -/
def mM (g : mG) (l : Launch) (md : mMd) (p : Program) (e : Env) (R : Room) (s : State) (m : MethodId) (args : Array Value) (below : List Frame) (meth : Method) (c : Code) (n0 t0 : Nat) (Q : State → Prop) (cf : mCf) : Prop :=
  n0 ≤ cf.2.2.2.1.length → t0 ≤ mTot cf.2.2.2.1 → ∀ (H : Heap) (locs : List Loc) (ls : Array Slot), mP g cf.2.2.2.1 cf.2.2.2.2 H → va_S (mA g) s.heap H locs → mLoc (mGh g) ls md.2.2.2.1 cf.2.1 → W p l e R s m args below meth c H locs (cf.2.2.2.1.length - n0) (mTot cf.2.2.2.1 - t0) Q (F0 m cf.1 ls (cf.2.2.1.map (mE (mGh g))))
theorem mDec {bs : ByteArray} {pc np n : Nat} {ins : Jvm.ClassFile.Instr} (h : decode bs pc = .ok (ins, np - pc)) (e : np = pc + n) : decode bs pc = .ok (ins, n) := by
  subst e
  rwa [Nat.add_sub_cancel_left] at h
section MS
variable {g : mG} {l : Launch} {md : mMd} {p : Program} {e : Env} {R : Room} {s : State} {m : MethodId} {args : Array Value} {below : List Frame} {meth : Method} {c : Code} {n0 t0 : Nat} {Q : State → Prop}
theorem mLdI_ok {pc np i : Nat} {L : mLs} {st : List Value} {sp : mSh} {σ : mHp} {cf : mCf} (h : mLdI np L st sp σ i = some cf) (hw : ∀ {H : Heap} {locs : List Loc} {ls : Array Slot} {k n : Nat} {x : Int32} {rest : List Value}, ls[i]? = some (.val (.int x)) → W p l e R s m args below meth c H locs k n Q (F0 m np ls (.int x :: rest)) → W p l e R s m args below meth c H locs k n Q (F0 m pc ls rest)) (k : mM g l md p e R s m args below meth c n0 t0 Q cf) : mM g l md p e R s m args below meth c n0 t0 Q (pc, L, st, sp, σ) := by
  unfold mLdI at h
  split at h
  · rename_i x hx
    cases h
    intro hn ht H locs ls hP hS hl
    exact hw (hl.at (mGet_at hx)) (k hn ht H locs ls hP hS hl)
  · cases h
theorem mLdL_ok {pc np i : Nat} {L : mLs} {st : List Value} {sp : mSh} {σ : mHp} {cf : mCf} (h : mLdL np L st sp σ i = some cf) (hw : ∀ {H : Heap} {locs : List Loc} {ls : Array Slot} {k n : Nat} {x : Int64} {rest : List Value}, ls[i]? = some (.val (.long x)) → W p l e R s m args below meth c H locs k n Q (F0 m np ls (.long x :: rest)) → W p l e R s m args below meth c H locs k n Q (F0 m pc ls rest)) (k : mM g l md p e R s m args below meth c n0 t0 Q cf) : mM g l md p e R s m args below meth c n0 t0 Q (pc, L, st, sp, σ) := by
  unfold mLdL at h
  split at h
  · rename_i x hx
    cases h
    intro hn ht H locs ls hP hS hl
    exact hw (hl.at (mGet_at hx)) (k hn ht H locs ls hP hS hl)
  · cases h
theorem mLdF_ok {pc np i : Nat} {L : mLs} {st : List Value} {sp : mSh} {σ : mHp} {cf : mCf} (h : mLdF np L st sp σ i = some cf) (hw : ∀ {H : Heap} {locs : List Loc} {ls : Array Slot} {k n : Nat} {x : UInt32} {rest : List Value}, ls[i]? = some (.val (.float x)) → W p l e R s m args below meth c H locs k n Q (F0 m np ls (.float x :: rest)) → W p l e R s m args below meth c H locs k n Q (F0 m pc ls rest)) (k : mM g l md p e R s m args below meth c n0 t0 Q cf) : mM g l md p e R s m args below meth c n0 t0 Q (pc, L, st, sp, σ) := by
  unfold mLdF at h
  split at h
  · rename_i x hx
    cases h
    intro hn ht H locs ls hP hS hl
    exact hw (hl.at (mGet_at hx)) (k hn ht H locs ls hP hS hl)
  · cases h
theorem mLdD_ok {pc np i : Nat} {L : mLs} {st : List Value} {sp : mSh} {σ : mHp} {cf : mCf} (h : mLdD np L st sp σ i = some cf) (hw : ∀ {H : Heap} {locs : List Loc} {ls : Array Slot} {k n : Nat} {x : UInt64} {rest : List Value}, ls[i]? = some (.val (.double x)) → W p l e R s m args below meth c H locs k n Q (F0 m np ls (.double x :: rest)) → W p l e R s m args below meth c H locs k n Q (F0 m pc ls rest)) (k : mM g l md p e R s m args below meth c n0 t0 Q cf) : mM g l md p e R s m args below meth c n0 t0 Q (pc, L, st, sp, σ) := by
  unfold mLdD at h
  split at h
  · rename_i x hx
    cases h
    intro hn ht H locs ls hP hS hl
    exact hw (hl.at (mGet_at hx)) (k hn ht H locs ls hP hS hl)
  · cases h
theorem mLdA_ok {pc np i : Nat} {L : mLs} {st : List Value} {sp : mSh} {σ : mHp} {cf : mCf} (h : mLdA np L st sp σ i = some cf) (hw : ∀ {H : Heap} {locs : List Loc} {ls : Array Slot} {k n : Nat} {x : Nat} {rest : List Value}, ls[i]? = some (.val (.ref x)) → W p l e R s m args below meth c H locs k n Q (F0 m np ls (.ref x :: rest)) → W p l e R s m args below meth c H locs k n Q (F0 m pc ls rest)) (hw0 : ∀ {H : Heap} {locs : List Loc} {ls : Array Slot} {k n : Nat} {rest : List Value}, ls[i]? = some (.val .null) → W p l e R s m args below meth c H locs k n Q (F0 m np ls (.null :: rest)) → W p l e R s m args below meth c H locs k n Q (F0 m pc ls rest)) (k : mM g l md p e R s m args below meth c n0 t0 Q cf) : mM g l md p e R s m args below meth c n0 t0 Q (pc, L, st, sp, σ) := by
  unfold mLdA at h
  split at h
  · rename_i x hx
    cases h
    intro hn ht H locs ls hP hS hl
    exact hw (hl.at (mGet_at hx)) (k hn ht H locs ls hP hS hl)
  · rename_i hx
    cases h
    intro hn ht H locs ls hP hS hl
    exact hw0 (hl.at (mGet_at hx)) (k hn ht H locs ls hP hS hl)
  · cases h
theorem mStI_ok {pc np i : Nat} {L : mLs} {st : List Value} {sp : mSh} {σ : mHp} {cf : mCf} (h : mStI np L st sp σ i = some cf) (hw : ∀ {H : Heap} {locs : List Loc} {ls : Array Slot} {k n nL : Nat} {x : Int32} {rest : List Value} {lv : List (Nat × Value)}, lv_has ls nL lv → i < nL → (∀ ls' : Array Slot, lv_has ls' nL ((i, Value.int x) :: lv.filter (fun q => !(q.1 == i) && !(q.1 + 1 == i && q.2.category == 2))) → W p l e R s m args below meth c H locs k n Q (F0 m np ls' rest)) → W p l e R s m args below meth c H locs k n Q (F0 m pc ls (.int x :: rest))) (k : mM g l md p e R s m args below meth c n0 t0 Q cf) : mM g l md p e R s m args below meth c n0 t0 Q (pc, L, st, sp, σ) := by
  unfold mStI at h
  split at h
  · obtain ⟨L1, h1, h2, h3, h4⟩ := mSet_spec h
    cases h1
    intro hn ht H locs ls hP hS hl
    exact hw hl.2 (by rw [← hl.1]; exact h3) (fun ls' hl' => k hn ht H locs ls' hP hS (mLoc.set1 (ls := ls) (h2.trans hl.1) hl' h4))
  · cases h
theorem mStF_ok {pc np i : Nat} {L : mLs} {st : List Value} {sp : mSh} {σ : mHp} {cf : mCf} (h : mStF np L st sp σ i = some cf) (hw : ∀ {H : Heap} {locs : List Loc} {ls : Array Slot} {k n nL : Nat} {x : UInt32} {rest : List Value} {lv : List (Nat × Value)}, lv_has ls nL lv → i < nL → (∀ ls' : Array Slot, lv_has ls' nL ((i, Value.float x) :: lv.filter (fun q => !(q.1 == i) && !(q.1 + 1 == i && q.2.category == 2))) → W p l e R s m args below meth c H locs k n Q (F0 m np ls' rest)) → W p l e R s m args below meth c H locs k n Q (F0 m pc ls (.float x :: rest))) (k : mM g l md p e R s m args below meth c n0 t0 Q cf) : mM g l md p e R s m args below meth c n0 t0 Q (pc, L, st, sp, σ) := by
  unfold mStF at h
  split at h
  · obtain ⟨L1, h1, h2, h3, h4⟩ := mSet_spec h
    cases h1
    intro hn ht H locs ls hP hS hl
    exact hw hl.2 (by rw [← hl.1]; exact h3) (fun ls' hl' => k hn ht H locs ls' hP hS (mLoc.set1 (ls := ls) (h2.trans hl.1) hl' h4))
  · cases h
theorem mStL2_ok {pc np i : Nat} {L : mLs} {st : List Value} {sp : mSh} {σ : mHp} {cf : mCf} (h : mStL2 np L st sp σ i = some cf) (hw : ∀ {H : Heap} {locs : List Loc} {ls : Array Slot} {k n nL : Nat} {x : Int64} {rest : List Value} {lv : List (Nat × Value)}, lv_has ls nL lv → i + 1 < nL → (∀ ls' : Array Slot, lv_has ls' nL ((i, Value.long x) :: lv.filter (fun q => !(q.1 == i) && (!(q.1 == i + 1) && !(q.1 + 1 == i && q.2.category == 2)))) → W p l e R s m args below meth c H locs k n Q (F0 m np ls' rest)) → W p l e R s m args below meth c H locs k n Q (F0 m pc ls (.long x :: rest))) (k : mM g l md p e R s m args below meth c n0 t0 Q cf) : mM g l md p e R s m args below meth c n0 t0 Q (pc, L, st, sp, σ) := by
  unfold mStL2 at h
  split at h
  · obtain ⟨L1, h1, h2, h3, h4⟩ := mSet2_spec h
    cases h1
    intro hn ht H locs ls hP hS hl
    exact hw hl.2 (by rw [← hl.1]; exact h3) (fun ls' hl' => k hn ht H locs ls' hP hS (mLoc.set2 (ls := ls) (h2.trans hl.1) hl' h4))
  · cases h
theorem mStD_ok {pc np i : Nat} {L : mLs} {st : List Value} {sp : mSh} {σ : mHp} {cf : mCf} (h : mStD np L st sp σ i = some cf) (hw : ∀ {H : Heap} {locs : List Loc} {ls : Array Slot} {k n nL : Nat} {x : UInt64} {rest : List Value} {lv : List (Nat × Value)}, lv_has ls nL lv → i + 1 < nL → (∀ ls' : Array Slot, lv_has ls' nL ((i, Value.double x) :: lv.filter (fun q => !(q.1 == i) && (!(q.1 == i + 1) && !(q.1 + 1 == i && q.2.category == 2)))) → W p l e R s m args below meth c H locs k n Q (F0 m np ls' rest)) → W p l e R s m args below meth c H locs k n Q (F0 m pc ls (.double x :: rest))) (k : mM g l md p e R s m args below meth c n0 t0 Q cf) : mM g l md p e R s m args below meth c n0 t0 Q (pc, L, st, sp, σ) := by
  unfold mStD at h
  split at h
  · obtain ⟨L1, h1, h2, h3, h4⟩ := mSet2_spec h
    cases h1
    intro hn ht H locs ls hP hS hl
    exact hw hl.2 (by rw [← hl.1]; exact h3) (fun ls' hl' => k hn ht H locs ls' hP hS (mLoc.set2 (ls := ls) (h2.trans hl.1) hl' h4))
  · cases h
theorem mStA_ok {pc np i : Nat} {L : mLs} {st : List Value} {sp : mSh} {σ : mHp} {cf : mCf} (h : mStA np L st sp σ i = some cf) (hw : ∀ {H : Heap} {locs : List Loc} {ls : Array Slot} {k n nL : Nat} {x : Nat} {rest : List Value} {lv : List (Nat × Value)}, lv_has ls nL lv → i < nL → (∀ ls' : Array Slot, lv_has ls' nL ((i, Value.ref x) :: lv.filter (fun q => !(q.1 == i) && !(q.1 + 1 == i && q.2.category == 2))) → W p l e R s m args below meth c H locs k n Q (F0 m np ls' rest)) → W p l e R s m args below meth c H locs k n Q (F0 m pc ls (.ref x :: rest))) (hw0 : ∀ {H : Heap} {locs : List Loc} {ls : Array Slot} {k n nL : Nat} {rest : List Value} {lv : List (Nat × Value)}, lv_has ls nL lv → i < nL → (∀ ls' : Array Slot, lv_has ls' nL ((i, Value.null) :: lv.filter (fun q => !(q.1 == i) && !(q.1 + 1 == i && q.2.category == 2))) → W p l e R s m args below meth c H locs k n Q (F0 m np ls' rest)) → W p l e R s m args below meth c H locs k n Q (F0 m pc ls (.null :: rest))) (k : mM g l md p e R s m args below meth c n0 t0 Q cf) : mM g l md p e R s m args below meth c n0 t0 Q (pc, L, st, sp, σ) := by
  unfold mStA at h
  split at h
  · obtain ⟨L1, h1, h2, h3, h4⟩ := mSet_spec h
    cases h1
    intro hn ht H locs ls hP hS hl
    exact hw hl.2 (by rw [← hl.1]; exact h3) (fun ls' hl' => k hn ht H locs ls' hP hS (mLoc.set1 (ls := ls) (h2.trans hl.1) hl' h4))
  · obtain ⟨L1, h1, h2, h3, h4⟩ := mSet_spec h
    cases h1
    intro hn ht H locs ls hP hS hl
    exact hw0 hl.2 (by rw [← hl.1]; exact h3) (fun ls' hl' => k hn ht H locs ls' hP hS (mLoc.set1 (ls := ls) (h2.trans hl.1) hl' h4))
  · cases h
theorem mFL_of {o i a b : Nat} (h : (o, i, a, b) ∈ mFL) : Cond.fieldLink (mCn o) i (mFd a b).1 (mFd a b).2.1 (mFd a b).2.2.1 ∈ mTB := mFL_in _ h
theorem mCl_of {a : Nat} (h : a < 10) : ∃ q : vw_C, vwCl[a]? = some q ∧ q ∈ vwCl ∧ q.2.2 = mNf a ∧ ∀ k, q.2.1 k = mFd a k := by
  have h1 : vwCl[a]? = some vwCl[a] := List.getElem?_eq_getElem (show a < vwCl.length from h)
  refine ⟨_, h1, List.getElem_mem _, ?_, ?_⟩
  · simp [mNf, h1]
  · intro k; simp [mFd, h1]
theorem mGf_ok {pc i a b cc : Nat} {L : mLs} {st : List Value} {sp : mSh} {σ : mHp} {cf : mCf} (hX : mX g md p s m args meth c n0) (hx : (md.2.1, i, a, b) ∈ mFL ∧ b < mNf a ∧ a < 10 ∧ cc = mFt a b) (hd : decode md.2.2.1 pc = .ok (.getfield i, 3)) (h : mGf (pc + 3) a b cc L st sp σ = some cf) (k : mM g l md p e R s m args below meth c n0 t0 Q cf) : mM g l md p e R s m args below meth c n0 t0 Q (pc, L, st, sp, σ) := by
  obtain ⟨hfl, hbn, ha, hcc⟩ := hx
  obtain ⟨q, hq, hqm, hqn, hqd⟩ := mCl_of ha
  unfold mGf at h
  split at h
  · rename_i ix t
    split at h
    · rename_i ci n r hsp
      obtain ⟨hat, hlt⟩ := mSpA_at hsp
      cases hb : (Nat.beq ci a && Nat.blt b n) with
      | false => rw [hb] at h; cases h
      | true =>
        rw [hb] at h
        simp only [Bool.and_eq_true] at hb
        have e1 : ci = a := Nat.eq_of_beq_eq_true hb.1
        have e2 : b < n := by simpa [Nat.blt_eq] using hb.2
        subst e1
        have key : ∀ {v : Value}, mFv (mGh g) σ ix r cc b = mE (mGh g) v → cf = (pc + 3, L, v :: t, sp, σ) → mM g l md p e R s m args below meth c n0 t0 Q (pc, L, .ref ix :: t, sp, σ) := by
          intro v hv hcf
          subst hcf
          intro hn ht H locs ls hP hS hl
          have K := k hn ht H locs ls hP hS hl
          show W p l e R s m args below meth c H locs _ _ Q (F0 m pc ls (.ref (mAl (mGh g) ix) :: t.map (mE (mGh g))))
          rw [mAl_lt hlt]
          have hat2 := mWl_at (g := g) (σ := σ) hat
          have hce : mCell g σ ix (ci, n, r) = .inr (ci, mFs (mGh g) σ ix (ci, n, r)) := by
            unfold mCell
            rw [if_neg (by show ¬ ci = 100; omega), if_neg (by show ¬ ci = 101; omega), if_neg (by show ¬ ci = 102; omega), if_neg (by show ¬ ci = 103; omega)]
          rw [hce] at hat2
          have hlink := hX.2.2.2.2.1 _ (mFL_of hfl)
          refine va_get (ref := (mFd ci b).1) (C := q.1) (T := q.2.1) (N := q.2.2) hX.1 hX.2.1 hX.2.2.2.2.1 (mLay_tb q hqm) hX.2.2.2.1 hX.2.2.2.2.2.1.1 hP ix hat2 hq b (by rw [hqn]; exact hbn) (by rw [hqd]; exact hlink) (by rw [hqd]; exact fun _ h9 => h9) (v := mE (mGh g) v) ?_ hd K
          rw [mFs_at e2, ← hv, hcc]
        simp only [cond_true] at h
        split at h
        · exact key (v := .int (σ.1 ix b)) (by simp [mFv, mE]) (by cases h; rfl)
        · exact key (v := .long (σ.2.1 ix b)) (by simp [mFv, mE]) (by cases h; rfl)
        · split at h
          · rename_i hr
            exact key (v := .null) (by rw [mFv, if_neg (by decide), if_pos rfl, ← mRn_eq, hr]; rfl) (by cases h; rfl)
          · rename_i j hr
            exact key (v := .ref j) (by rw [mFv, if_neg (by decide), if_pos rfl, ← mRn_eq, hr]; rfl) (by cases h; rfl)
        · exact key (v := .int (σ.1 ix b)) (by simp [mFv, mE]) (by cases h; rfl)
        · cases h
    · cases h
  · cases h
end MS
