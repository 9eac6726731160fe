/-! rows of code: what is checked of them once, and how one is found -/
def mLk : List (Nat × mRow) → Nat → Option mRow
  | [], _ => none
  | (q, r) :: t, pc => bif Nat.beq q pc then some r else mLk t pc
def mCh : mTab → Nat → List (Nat × mRow)
  | [], _ => []
  | l :: _, 0 => l
  | _ :: t, i + 1 => mCh t i
def mIn (t : mTab) (pc : Nat) : Option mRow := mLk (mCh t (pc / 16)) pc
def mLen (i : Jvm.ClassFile.Instr) : Nat := match i with
  | .bipush _ | .ldc _ | .iload _ | .lload _ | .fload _ | .dload _ | .aload _ | .istore _ | .lstore _ | .fstore _ | .dstore _ | .astore _ | .newarray _ => 2
  | .sipush _ | .ldc2_w _ | .iinc _ _ | .getfield _ | .putfield _ | .goto _ | .if_icmp _ _ | .ifCond _ _ | .ifnull _ | .ifnonnull _ | .invokevirtual _ | .invokespecial _ | .invokestatic _ | .new _ | .anewarray _ | .checkcast _ => 3
  | _ => 1
def mBr (pc : Nat) (off : Int) (a : Nat) : Bool := decide ((pc : Int) + off = (a : Int))
def mNf (ci : Nat) : Nat := ((vwCl[ci]?).getD ("", fun _ => ("", "", "", false), 0)).2.2
/-- how many parameters a method's descriptor has -/
def mPn (a : Nat) : Option Nat := (parseMethodDescriptor (mD a).1.desc).map (fun d => d.parameters.length)
/-- a table of jumps: keys and targets -/
def mSwL (pc : Nat) : Int → List Int → List (Int32 × Nat)
  | _, [] => []
  | lo, o :: t => (Int32.ofInt lo, ((pc : Int) + o).toNat) :: mSwL pc (lo + 1) t
def mSwC (pc : Nat) : Int → List Int → Bool
  | _, [] => true
  | lo, o :: t => decide ((Int32.ofInt lo).toInt = lo ∧ 0 ≤ (pc : Int) + o) && mSwC pc (lo + 1) t
def mSwM (pc : Nat) : List (Int × Int) → List (Int32 × Nat)
  | [] => []
  | q :: t => (Int32.ofInt q.1, ((pc : Int) + q.2).toNat) :: mSwM pc t
def mSwD (pc : Nat) : List (Int × Int) → Bool
  | [] => true
  | q :: t => decide ((Int32.ofInt q.1).toInt = q.1 ∧ 0 ≤ (pc : Int) + q.2) && mSwD pc t
def mRx (o : Nat) (ini : Bool) (pc : Nat) (r : mRow) : Bool := match r with
  | (ins, np, a, b, c, v, w) => match ins with
    | .iconst n => decide (np = pc + 1 ∧ Int32.ofInt n = v)
    | .bipush n => decide (np = pc + 2 ∧ (Int8.ofInt n).toInt32 = v)
    | .sipush n => decide (np = pc + 3 ∧ (Int16.ofInt n).toInt32 = v)
    | .ldc i => decide (np = pc + 2) && (if a = 0 then decide ((o, i, v) ∈ mIL) else decide (o = 7 ∧ (mStL[b]?).map (fun q => q.1) = some i))
    | .ldc2_w i => decide (np = pc + 3 ∧ (o, i, w) ∈ mLL)
    | .goto f => mBr pc f a
    | .if_icmp _ f => decide (np = pc + 3) && mBr pc f a
    | .ifCond _ f => decide (np = pc + 3) && mBr pc f a
    | .ifnull f => decide (np = pc + 3) && mBr pc f a
    | .ifnonnull f => decide (np = pc + 3) && mBr pc f a
    | .iinc _ n => decide (np = pc + 3 ∧ Int32.ofInt n = v)
    | .tableswitch d lo hi offs => decide ((offs.size : Int) = hi - lo + 1 ∧ 0 ≤ (pc : Int) + d) && mSwC pc lo offs.toList
    | .lookupswitch d ps => decide (0 ≤ (pc : Int) + d) && mSwD pc ps.toList && (ps.toList.zip (ps.toList.drop 1)).all (fun (a, next) => a.1 < next.1)
    | .getfield i => decide (np = pc + 3 ∧ (o, i, a, b) ∈ mFL ∧ b < mNf a ∧ a < 10 ∧ c = mFt a b)
    | .putfield i => decide (np = pc + 3 ∧ (o, i, a, b) ∈ mFL ∧ b < mNf a ∧ a < 10) && (if c < 10 then decide (c = mFt a b ∧ (mFd a b).2.2.2 = false) else decide (c = mFt a b + 10 ∧ (mFd a b).2.2.2 = true ∧ ini = true ∧ (mFd a b).1 = mCn o))
    | .invokevirtual i => decide (np = pc + 3) && (if a < 1000 then decide ((o, i, a) ∈ mML ∧ a ∈ mIv ∧ a ∈ mSv ∧ (mD a).2.1 ∈ mNv ∧ (mD a).2.1 = c ∧ a < mdL.length ∧ mPn a = some (b - 1) ∧ 0 < b ∧ (mD a).2.2.2.1 ≤ 22) else true)
    | .invokestatic i => decide (np = pc + 3) && (if a < 1000 then decide ((o, i, a) ∈ mML ∧ a ∈ mTv ∧ (mD a).2.1 ∈ mNv ∧ a < mdL.length ∧ mPn a = some b ∧ (mD a).2.2.2.1 ≤ 22) else true)
    | .invokespecial i => decide (np = pc + 3) && (if a < 1000 then (if c = 0 then decide ((o, i, a) ∈ mML) else decide ((o, i, a) ∈ mNL)) && decide (a ∈ mIv ∧ (mD a).2.1 ∈ mNv ∧ a < mdL.length ∧ mPn a = some (b - 1) ∧ 0 < b ∧ (mD a).2.2.2.1 ≤ 22 ∧ (mD a).1.name = "<init>" ∧ (mD a).2.2.2.2.1 = none) else true)
    | .new i => decide (np = pc + 3 ∧ (o, i, a) ∈ mCL ∧ a < 10 ∧ b = mNf a ∧ a ∈ mNv)
    | .newarray t => decide (np = pc + 2) && (match t, a with
      | .int, 100 => true
      | .long, 101 => true
      | .double, 102 => true
      | _, _ => false)
    | .anewarray i => decide (np = pc + 3 ∧ (o, i, 5) ∈ mCL)
    | i => decide (np = pc + mLen i)
def mRowOk (o : Nat) (bs : ByteArray) (ini : Bool) (e : Nat × mRow) : Bool := decide (decode bs e.1 = .ok (e.2.1, e.2.2.1 - e.1) ∧ e.1 < e.2.2.1) && mRx o ini e.1 e.2
def mMdOk (m : mMd) : Bool := m.2.2.2.2.2.all (fun ch => ch.all (mRowOk m.2.1 m.2.2.1 (m.1.name == "<init>"))) && decide (m.1.cls = mCn m.2.1) && plainFor m.1 && decide (m.1.cls ≠ "java/lang/invoke/MethodHandle" ∧ m.1.cls ≠ "java/lang/invoke/VarHandle")
theorem mLk_mem : ∀ {l : List (Nat × mRow)} {pc : Nat} {r : mRow}, mLk l pc = some r → (pc, r) ∈ l := by
  intro l
  induction l with
  | nil => intro pc r h; simp [mLk] at h
  | cons a t ih =>
    intro pc r h
    obtain ⟨q, x⟩ := a
    simp only [mLk] at h
    cases hb : Nat.beq q pc with
    | true =>
      rw [hb] at h
      have : q = pc := Nat.eq_of_beq_eq_true hb
      simp at h
      subst this; subst h
      exact List.mem_cons_self
    | false => rw [hb] at h; exact List.mem_cons_of_mem _ (ih h)
theorem mCh_mem : ∀ {t : mTab} {i : Nat} {e : Nat × mRow}, e ∈ mCh t i → ∃ ch ∈ t, e ∈ ch := by
  intro t
  induction t with
  | nil => intro i e h; cases i <;> simp [mCh] at h
  | cons a t ih =>
    intro i e h
    cases i with
    | zero => exact ⟨a, List.mem_cons_self, h⟩
    | succ i => obtain ⟨ch, h1, h2⟩ := ih h; exact ⟨ch, List.mem_cons_of_mem _ h1, h2⟩
theorem mRow_ok {m : mMd} (hm : mMdOk m = true) {pc : Nat} {r : mRow} (h : mIn m.2.2.2.2.2 pc = some r) : decode m.2.2.1 pc = .ok (r.1, r.2.1 - pc) ∧ pc < r.2.1 ∧ mRx m.2.1 (m.1.name == "<init>") pc r = true := by
  obtain ⟨ch, h1, h2⟩ := mCh_mem (mLk_mem h)
  simp only [mMdOk, Bool.and_eq_true] at hm
  have h3 := List.all_eq_true.mp (List.all_eq_true.mp hm.1.1.1 ch h1) _ h2
  simp only [mRowOk, Bool.and_eq_true, decide_eq_true_eq] at h3
  exact ⟨h3.1.1, h3.1.2, h3.2⟩
