/-! steps with a condition: arrays, flags, divisions, numbers that are no NaN; branches; switches -/
def mSd (g : mG) (r : mRow) (L : mLs) (st : List Value) (sp : mSh) (σ : mHp) : Option (Prop × mCf) := match r with
  | (ins, np, a, b, c, _, _) => match ins with
    | .iaload => (match st with
      | .int i :: .ref q :: t => (match mSpA sp q with
        | some (100, n, _) => some (vp_in i n, np, L, .int (σ.1 q i.toNatClampNeg) :: t, sp, σ)
        | _ => none)
      | _ => none)
    | .laload => (match st with
      | .int i :: .ref q :: t => (match mSpA sp q with
        | some (101, n, _) => some (vp_in i n, np, L, .long (σ.2.1 q i.toNatClampNeg) :: t, sp, σ)
        | _ => none)
      | _ => none)
    | .daload => (match st with
      | .int i :: .ref q :: t => (match mSpA sp q with
        | some (102, n, _) => some (vp_in i n, np, L, .double (σ.2.2 q i.toNatClampNeg) :: t, sp, σ)
        | _ => none)
      | _ => none)
    | .aaload => (match st with
      | .int i :: .ref q :: t => (match mSpA sp q with
        | some (103, n, r) => (match mRn r i.toNatClampNeg with
          | none => some (vp_in i n, np, L, .null :: t, sp, σ)
          | some j => some (vp_in i n, np, L, .ref j :: t, sp, σ))
        | _ => none)
      | _ => none)
    | .iastore => (match st with
      | .int x :: .int i :: .ref q :: t => (match mSpA sp q with
        | some (100, n, _) => some (vp_in i n, np, L, t, sp, mWI σ q i.toNatClampNeg x)
        | _ => none)
      | _ => none)
    | .lastore => (match st with
      | .long x :: .int i :: .ref q :: t => (match mSpA sp q with
        | some (101, n, _) => some (vp_in i n, np, L, t, sp, mWL σ q i.toNatClampNeg x)
        | _ => none)
      | _ => none)
    | .dastore => (match st with
      | .double x :: .int i :: .ref q :: t => (match mSpA sp q with
        | some (102, n, _) => some (vp_in i n, np, L, t, sp, mWD σ q i.toNatClampNeg x)
        | _ => none)
      | _ => none)
    | .putfield _ => (match c with
      | 3 => (match st with
        | .int x :: .ref i :: t => bif mHas sp i a b then some (x = 0 ∨ x = 1, np, L, t, sp, mWI σ i b x) else none
        | _ => none)
      | _ => none)
    | .lrem => (match st with
      | .long y :: .long x :: t => some (¬ y = 0, np, L, .long (x - x / y * y) :: t, sp, σ)
      | _ => none)
    | .f2d => (match st with
      | .float x :: t => some (vf_n64 (FP.f2d x), np, L, .double (FP.f2d x) :: t, sp, σ)
      | _ => none)
    | .d2f => (match st with
      | .double x :: t => some (vf_n32 (FP.d2f x), np, L, .float (FP.d2f x) :: t, sp, σ)
      | _ => none)
    | .fdiv => (match st with
      | .float y :: .float x :: t => some (vf_n32 (FP.fdiv x y), np, L, .float (FP.fdiv x y) :: t, sp, σ)
      | _ => none)
    | .ddiv => (match st with
      | .double y :: .double x :: t => some (vf_n64 (FP.ddiv x y), np, L, .double (FP.ddiv x y) :: t, sp, σ)
      | _ => none)
    | .dadd => (match st with
      | .double y :: .double x :: t => some (vf_n64 (FP.dadd x y), np, L, .double (FP.dadd x y) :: t, sp, σ)
      | _ => none)
    | .dsub => (match st with
      | .double y :: .double x :: t => some (vf_n64 (FP.dsub x y), np, L, .double (FP.dsub x y) :: t, sp, σ)
      | _ => none)
    | .ldc _ => (match a with
      | 1 => some (True, np, L, .ref (1000000 + mGs g b) :: st, sp, σ)
      | _ => none)
    | _ => none
def mBn (r : mRow) (L : mLs) (st : List Value) (sp : mSh) (σ : mHp) : Option (Prop × mCf × mCf) := match r with
  | (ins, np, a, _, _, _, _) => match ins with
    | .if_icmp cd _ => (match st with
      | .int y :: .int x :: t => (match cd with
        | .eq => some (x = y, (a, L, t, sp, σ), (np, L, t, sp, σ))
        | .ne => some (x = y, (np, L, t, sp, σ), (a, L, t, sp, σ))
        | .lt => some (x < y, (a, L, t, sp, σ), (np, L, t, sp, σ))
        | .ge => some (y ≤ x, (a, L, t, sp, σ), (np, L, t, sp, σ))
        | .gt => some (y < x, (a, L, t, sp, σ), (np, L, t, sp, σ))
        | .le => some (x ≤ y, (a, L, t, sp, σ), (np, L, t, sp, σ)))
      | _ => none)
    | .ifCond cd _ => (match st with
      | .int x :: t => (match cd with
        | .eq => some (x = 0, (a, L, t, sp, σ), (np, L, t, sp, σ))
        | .ne => some (x = 0, (np, L, t, sp, σ), (a, L, t, sp, σ))
        | .lt => some (x < 0, (a, L, t, sp, σ), (np, L, t, sp, σ))
        | .ge => some (0 ≤ x, (a, L, t, sp, σ), (np, L, t, sp, σ))
        | .gt => some (0 < x, (a, L, t, sp, σ), (np, L, t, sp, σ))
        | .le => some (x ≤ 0, (a, L, t, sp, σ), (np, L, t, sp, σ)))
      | _ => none)
    | _ => none
def mSw (pc : Nat) (r : mRow) (st : List Value) : Option (Int32 × List (Int32 × Nat) × Nat × List Value) := match r.1 with
  | .tableswitch d lo _ offs => (match st with
    | .int x :: t => some (x, mSwL pc lo offs.toList, ((pc : Int) + d).toNat, t)
    | _ => none)
  | .lookupswitch d ps => (match st with
    | .int x :: t => some (x, mSwM pc ps.toList, ((pc : Int) + d).toNat, t)
    | _ => none)
  | _ => none
/-- what is owed at a switch: a goal a key, in their order, then the rest -/
def mSwG (F : Nat → Prop) (x : Int32) : List (Int32 × Nat) → Nat → Prop
  | [], d => F d
  | (v, t) :: l, d => (x = v → F t) ∧ (¬ x = v → mSwG F x l d)
/-- where a switch goes -/
def mSwT (x : Int32) : List (Int32 × Nat) → Nat → Nat
  | [], d => d
  | (v, t) :: l, d => if x = v then t else mSwT x l d
theorem mSwG_at {F : Nat → Prop} {x : Int32} : ∀ {l : List (Int32 × Nat)} {d : Nat}, mSwG F x l d → F (mSwT x l d) := by
  intro l
  induction l with
  | nil => intro d h; exact h
  | cons a t ih =>
    intro d h
    obtain ⟨v, w⟩ := a
    by_cases hx : x = v
    · simp only [mSwT, if_pos hx]; exact h.1 hx
    · simp only [mSwT, if_neg hx]; exact ih (h.2 hx)
theorem mSwT_out {pc : Nat} {x : Int32} {d : Nat} : ∀ {offs : List Int} {lo : Int}, mSwC pc lo offs = true → (x.toInt < lo ∨ lo + offs.length ≤ x.toInt) → mSwT x (mSwL pc lo offs) d = d := by
  intro offs
  induction offs with
  | nil => intro lo _ _; rfl
  | cons o r ih =>
    intro lo hc hx
    simp only [mSwC, Bool.and_eq_true, decide_eq_true_eq] at hc
    simp only [List.length_cons] at hx
    have h1 : ¬ x = Int32.ofInt lo := fun z => by
      rw [z, hc.1.1] at hx
      omega
    simp only [mSwL, mSwT, if_neg h1]
    exact ih hc.2 (by omega)
theorem mSwT_in {pc : Nat} {x : Int32} {d : Nat} : ∀ {offs : List Int} {lo : Int} {o : Int}, mSwC pc lo offs = true → lo ≤ x.toInt → offs[(x.toInt - lo).toNat]? = some o → (pc : Int) + o = (mSwT x (mSwL pc lo offs) d : Int) := by
  intro offs
  induction offs with
  | nil => intro lo o _ _ h; simp at h
  | cons o1 r ih =>
    intro lo o hc hx ho
    simp only [mSwC, Bool.and_eq_true, decide_eq_true_eq] at hc
    by_cases h1 : x = Int32.ofInt lo
    · simp only [mSwL, mSwT, if_pos h1]
      have h2 : x.toInt - lo = 0 := by rw [h1, hc.1.1]; omega
      rw [h2] at ho
      simp at ho
      subst ho
      rw [Int.toNat_of_nonneg hc.1.2]
    · simp only [mSwL, mSwT, if_neg h1]
      have h2 : x.toInt ≠ lo := fun z => h1 (Int32.toInt_inj.mp (by rw [hc.1.1]; exact z))
      refine ih hc.2 (by omega) ?_
      have h3 : (x.toInt - lo).toNat = (x.toInt - (lo + 1)).toNat + 1 := by omega
      rw [h3] at ho
      simpa using ho
theorem mSwT_lk {pc : Nat} {d : Int} {x : Int32} (hd : 0 ≤ (pc : Int) + d) : ∀ {ps : List (Int × Int)}, mSwD pc ps = true → (pc : Int) + Op.lookupswitch.offset ps d x.toInt = (mSwT x (mSwM pc ps) ((pc : Int) + d).toNat : Int) := by
  intro ps
  induction ps with
  | nil => intro _; rw [show mSwT x (mSwM pc []) ((pc : Int) + d).toNat = ((pc : Int) + d).toNat from rfl, Int.toNat_of_nonneg hd]; rfl
  | cons q r ih =>
    intro hc
    simp only [mSwD, Bool.and_eq_true, decide_eq_true_eq] at hc
    obtain ⟨qa, qo⟩ := q
    rw [Op.lookupswitch.offset_cons]
    by_cases h1 : x = Int32.ofInt qa
    · have h2 : x.toInt = qa := by rw [h1]; exact hc.1.1
      simp only [mSwM, mSwT, if_pos h1, h2, if_true]
      rw [Int.toNat_of_nonneg hc.1.2]
    · have h2 : ¬ x.toInt = qa := fun z => h1 (Int32.toInt_inj.mp (by rw [hc.1.1]; exact z))
      simp only [mSwM, mSwT, if_neg h1]
      first | rw [if_neg h2] | rw [if_neg (fun z => h2 z.symm)]
      exact ih hc.2
section MS
variable {g : mG} {l : Launch} {md : mMd} {p : Program} {e : Env} {R : Room} {s : State} {m : MethodId} {args : Array Value} {below : List Frame} {meth : Method} {c : Code} {n0 t0 : Nat} {Q : State → Prop}
theorem mSw_okT (hX : mX g md p s m args meth c n0) (hok : mOkP md) {pc : Nat} {r : mRow} {L : mLs} {st t : List Value} {sp : mSh} {σ : mHp} {x : Int32} {ks : List (Int32 × Nat)} {d : Nat} (hr : mIn md.2.2.2.2.2 pc = some r) (h : mSw pc r st = some (x, ks, d, t)) (k : mM g l md p e R s m args below meth c n0 t0 Q (mSwT x ks d, L, t, sp, σ)) : mM g l md p e R s m args below meth c n0 t0 Q (pc, L, st, sp, σ) := by
  obtain ⟨hd0, -, hx0⟩ := mRow_ok hok.1 hr
  obtain ⟨ins, np, a, b, cc, v, w⟩ := r
  have hx : mRx md.2.1 (md.1.name == "<init>") pc (ins, np, a, b, cc, v, w) = true := hx0
  have hd1 : decode md.2.2.1 pc = .ok (ins, np - pc) := hd0
  clear hx0 hd0 hr
  unfold mSw at h
  simp only at h
  split at h
  · rename_i df lo hi offs
    split at h
    · rename_i y t1
      simp only [Option.some.injEq, Prod.mk.injEq] at h
      obtain ⟨h11, h12, h13, h14⟩ := h
      subst h12 h13 h14
      have h11 : x = y := h11.symm
      subst h11
      simp only [mRx, Bool.and_eq_true, decide_eq_true_eq] at hx
      obtain ⟨⟨h1, h2⟩, h3⟩ := hx
      intro hn ht H locs ls hP hS hl
      have K := k hn ht H locs ls hP hS hl
      by_cases ho : x.toInt < lo ∨ hi < x.toInt
      · have e1 := mSwT_out (x := x) (d := ((pc : Int) + df).toNat) h3 (by rw [Array.length_toList]; omega)
        rw [e1] at K
        exact lv_tableOut hX.1 hX.2.1 hd1 ho (by rw [Int.toNat_of_nonneg h2]) K
      · have hlt : (x.toInt - lo).toNat < offs.size := by omega
        have ha : offs[(x.toInt - lo).toNat]? = some offs[(x.toInt - lo).toNat] := Array.getElem?_eq_getElem hlt
        exact lv_tableIn hX.1 hX.2.1 hd1 (fun z => ho (Or.inl z)) (fun z => ho (Or.inr z)) ha (mSwT_in h3 (by omega) (by rw [Array.getElem?_toList]; exact ha)) K
    · cases h
  · rename_i df ps
    split at h
    · simp only [Option.some.injEq, Prod.mk.injEq] at h
      obtain ⟨rfl, rfl, rfl, rfl⟩ := h
      simp only [mRx, Bool.and_eq_true, decide_eq_true_eq] at hx
      obtain ⟨⟨h1, h2⟩, h3⟩ := hx
      intro hn ht H locs ls hP hS hl
      have K := k hn ht H locs ls hP hS hl
      exact lv_lookup hX.1 hX.2.1 hd1 h3 rfl (mSwT_lk h1 h2) K
    · cases h
  · cases h
set_option maxHeartbeats 4000000 in
theorem mBn_ok (hX : mX g md p s m args meth c n0) (hok : mOkP md) {pc : Nat} {r : mRow} {L : mLs} {st : List Value} {sp : mSh} {σ : mHp} {C : Prop} {c1 c2 : mCf} (hr : mIn md.2.2.2.2.2 pc = some r) (h : mBn r L st sp σ = some (C, c1, c2)) (k1 : C → mM g l md p e R s m args below meth c n0 t0 Q c1) (k2 : ¬ C → mM g l md p e R s m args below meth c n0 t0 Q c2) : mM g l md p e R s m args below meth c n0 t0 Q (pc, L, st, sp, σ) := by
  obtain ⟨hd0, -, hx0⟩ := mRow_ok hok.1 hr
  obtain ⟨ins, np, a, b, cc, v, w⟩ := r
  have hx : mRx md.2.1 (md.1.name == "<init>") pc (ins, np, a, b, cc, v, w) = true := hx0
  have hd1 : decode md.2.2.1 pc = .ok (ins, np - pc) := hd0
  clear hx0 hd0 hr
  cases ins with
  | if_icmp cd f =>
    obtain ⟨e1, e2⟩ : np = pc + 3 ∧ (pc : Int) + f = (a : Int) := by simpa [mRx, mBr] using hx
    subst e1
    have hd := mDec hd1 rfl
    clear hd1 hx
    simp only [mBn] at h
    split at h
    · cases cd <;> (simp only [Option.some.injEq, Prod.mk.injEq] at h; obtain ⟨rfl, rfl, rfl⟩ := h; intro hn ht H locs ls hP hS hl)
      all_goals first
        | exact lv_icmp_eq hX.1 hX.2.1 hd e2 (fun q => k1 q hn ht H locs ls hP hS hl) (fun q => k2 q hn ht H locs ls hP hS hl)
        | exact lv_icmp_ne hX.1 hX.2.1 hd e2 (fun q => k2 q hn ht H locs ls hP hS hl) (fun q => k1 q hn ht H locs ls hP hS hl)
        | exact lv_icmp_lt hX.1 hX.2.1 hd e2 (fun q => k1 q hn ht H locs ls hP hS hl) (fun q => k2 q hn ht H locs ls hP hS hl)
        | exact lv_icmp_ge hX.1 hX.2.1 hd e2 (fun q => k1 q hn ht H locs ls hP hS hl) (fun q => k2 q hn ht H locs ls hP hS hl)
        | exact lv_icmp_gt hX.1 hX.2.1 hd e2 (fun q => k1 q hn ht H locs ls hP hS hl) (fun q => k2 q hn ht H locs ls hP hS hl)
        | exact lv_icmp_le hX.1 hX.2.1 hd e2 (fun q => k1 q hn ht H locs ls hP hS hl) (fun q => k2 q hn ht H locs ls hP hS hl)
    · cases h
  | ifCond cd f =>
    obtain ⟨e1, e2⟩ : np = pc + 3 ∧ (pc : Int) + f = (a : Int) := by simpa [mRx, mBr] using hx
    subst e1
    have hd := mDec hd1 rfl
    clear hd1 hx
    simp only [mBn] at h
    split at h
    · cases cd <;> (simp only [Option.some.injEq, Prod.mk.injEq] at h; obtain ⟨rfl, rfl, rfl⟩ := h; intro hn ht H locs ls hP hS hl)
      all_goals first
        | exact lv_if_eq hX.1 hX.2.1 hd e2 (fun q => k1 q hn ht H locs ls hP hS hl) (fun q => k2 q hn ht H locs ls hP hS hl)
        | exact lv_if_ne hX.1 hX.2.1 hd e2 (fun q => k2 q hn ht H locs ls hP hS hl) (fun q => k1 q hn ht H locs ls hP hS hl)
        | exact lv_if_lt hX.1 hX.2.1 hd e2 (fun q => k1 q hn ht H locs ls hP hS hl) (fun q => k2 q hn ht H locs ls hP hS hl)
        | exact lv_if_ge hX.1 hX.2.1 hd e2 (fun q => k1 q hn ht H locs ls hP hS hl) (fun q => k2 q hn ht H locs ls hP hS hl)
        | exact lv_if_gt hX.1 hX.2.1 hd e2 (fun q => k1 q hn ht H locs ls hP hS hl) (fun q => k2 q hn ht H locs ls hP hS hl)
        | exact lv_if_le hX.1 hX.2.1 hd e2 (fun q => k1 q hn ht H locs ls hP hS hl) (fun q => k2 q hn ht H locs ls hP hS hl)
    · cases h
  | _ => simp [mBn] at h
end MS
