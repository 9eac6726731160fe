/-! parts of arrays are copied by the library -/
def mCpI (σ : mHp) (q0 q1 a b n : Nat) : mHp := (fun x => if x = q1 then va_cpy (σ.1 q0) (σ.1 q1) a b n else σ.1 x, σ.2)
def mCpL (σ : mHp) (q0 q1 a b n : Nat) : mHp := (σ.1, fun x => if x = q1 then va_cpy (σ.2.1 q0) (σ.2.1 q1) a b n else σ.2.1 x, σ.2.2)
def mCpD (σ : mHp) (q0 q1 a b n : Nat) : mHp := (σ.1, σ.2.1, fun x => if x = q1 then va_cpy (σ.2.2 q0) (σ.2.2 q1) a b n else σ.2.2 x)
theorem mCp_in : Cond.native arraycopyName ∈ mTB ∧ Cond.static arraycopyName ∈ mTB ∧ Cond.initialized "java/lang/System" ∈ mTB := ⟨List.mem_filter.mpr (by decide +kernel), List.mem_filter.mpr (by decide +kernel), List.mem_filter.mpr (by decide +kernel)⟩
theorem mCp_w : nativeFrameWords "java/lang/System" "arraycopy" 5 + 11 ≤ 41 := by decide
section MS
variable {g : mG} {l : Launch} {md : mMd} {p : Program} {e : Env} {R : Room} {s : State} {m : MethodId} {args : Array Value} {below : List Frame} {meth : Method} {c : Code} {n0 t0 : Nat} {Q : State → Prop}
theorem mCpI_ok (hX : mX g md p s m args meth c n0) (hok : mOkP md) {pc np bb cc i q0 q1 N0 N1 a b n : Nat} {v : Int32} {w : Int64} {r0 r1 : List (Option Nat)} {L : mLs} {sp : mSh} {σ : mHp} (hr : mIn md.2.2.2.2.2 pc = some (.invokestatic i, np, 1000, bb, cc, v, w)) (hl0 : Cond.methodLink (mCn md.2.1) i arraycopyName ∈ mTB) (h0 : sp[q0]? = some (100, N0, r0)) (h1 : sp[q1]? = some (100, N1, r1)) (l0 : q0 < 1000000) (l1 : q1 < 1000000) (ha : a + n ≤ N0) (hb : b + n ≤ N1) (hN : N0 < 2 ^ 31 ∧ N1 < 2 ^ 31) (hR : 1 ≤ R.frames) (hR2 : 41 ≤ R.locals) (k : mM g l md p e R s m args below meth c n0 t0 Q (np, L, [], sp, mCpI σ q0 q1 a b n)) : mM g l md p e R s m args below meth c n0 t0 Q (pc, L, [.int (nI n), .int (nI b), .ref q1, .int (nI a), .ref q0], sp, σ) := by
  obtain ⟨hd0, -, hx0⟩ := mRow_ok hok.1 hr
  simp only [mRx, Bool.and_eq_true, decide_eq_true_eq] at hx0
  have hd : decode md.2.2.1 pc = .ok (.invokestatic i, 3) := mDec hd0 hx0.1
  have enp := hx0.1
  subst enp
  intro hn ht H locs ls hP hS hl
  show W p l e R s m args below meth c H locs _ _ Q (F0 m pc ls [.int (nI n), .int (nI b), .ref (mAl (mGh g) q1), .int (nI a), .ref (mAl (mGh g) q0)])
  rw [mAl_lt l0, mAl_lt l1]
  refine va_copyi (own := mCn md.2.1) hX.1 hX.2.1 (by rw [hX.2.2.1]; exact hl.2.1.symm) hX.2.2.2.1 (hX.2.2.2.2.1 _ hl0) (hX.2.2.2.2.1 _ mCp_in.1) (hX.2.2.2.2.1 _ mCp_in.2.1) (hX.2.2.2.2.1 _ mCp_in.2.2) hX.2.2.2.2.2.1.1 hP (mWl_D g sp σ) hS q0 q1 0 0 (ty := .int) (mWl_at (g := g) (σ := σ) h0) (mWl_at (g := g) (σ := σ) h1) rfl rfl rfl (nI_pos (by omega)) (nI_pos (by omega)) (nI_pos (by omega)) (by rw [nI_clamp (by omega), nI_clamp (by omega)]; exact ha) (by rw [nI_clamp (by omega), nI_clamp (by omega)]; exact hb) (fun _ _ => rfl) hR (by have := mCp_w; simp only [List.map_nil, List.sum_nil]; omega) hd (fun H1 locs1 h1' _ h3 => ?_)
  rw [nI_clamp (by omega), nI_clamp (by omega), nI_clamp (by omega)] at h1'
  rw [mWl_set (σ' := mCpI σ q0 q1 a b n) rfl h1 (by simp [mCell, mCpI]) (fun _ _ => rfl) (fun j sh hj => by simp [mCell, mFs, mFv, mCpI, hj])] at h1'
  exact k hn ht H1 locs1 ls h1' h3 hl
theorem mCpL_ok (hX : mX g md p s m args meth c n0) (hok : mOkP md) {pc np bb cc i q0 q1 N0 N1 a b n : Nat} {v : Int32} {w : Int64} {r0 r1 : List (Option Nat)} {L : mLs} {sp : mSh} {σ : mHp} (hr : mIn md.2.2.2.2.2 pc = some (.invokestatic i, np, 1000, bb, cc, v, w)) (hl0 : Cond.methodLink (mCn md.2.1) i arraycopyName ∈ mTB) (h0 : sp[q0]? = some (101, N0, r0)) (h1 : sp[q1]? = some (101, N1, r1)) (l0 : q0 < 1000000) (l1 : q1 < 1000000) (ha : a + n ≤ N0) (hb : b + n ≤ N1) (hN : N0 < 2 ^ 31 ∧ N1 < 2 ^ 31) (hR : 1 ≤ R.frames) (hR2 : 41 ≤ R.locals) (k : mM g l md p e R s m args below meth c n0 t0 Q (np, L, [], sp, mCpL σ q0 q1 a b n)) : mM g l md p e R s m args below meth c n0 t0 Q (pc, L, [.int (nI n), .int (nI b), .ref q1, .int (nI a), .ref q0], sp, σ) := by
  obtain ⟨hd0, -, hx0⟩ := mRow_ok hok.1 hr
  simp only [mRx, Bool.and_eq_true, decide_eq_true_eq] at hx0
  have hd : decode md.2.2.1 pc = .ok (.invokestatic i, 3) := mDec hd0 hx0.1
  have enp := hx0.1
  subst enp
  intro hn ht H locs ls hP hS hl
  show W p l e R s m args below meth c H locs _ _ Q (F0 m pc ls [.int (nI n), .int (nI b), .ref (mAl (mGh g) q1), .int (nI a), .ref (mAl (mGh g) q0)])
  rw [mAl_lt l0, mAl_lt l1]
  refine va_copyl (own := mCn md.2.1) hX.1 hX.2.1 (by rw [hX.2.2.1]; exact hl.2.1.symm) hX.2.2.2.1 (hX.2.2.2.2.1 _ hl0) (hX.2.2.2.2.1 _ mCp_in.1) (hX.2.2.2.2.1 _ mCp_in.2.1) (hX.2.2.2.2.1 _ mCp_in.2.2) hX.2.2.2.2.2.1.1 hP (mWl_D g sp σ) hS q0 q1 1 1 (ty := .long) (mWl_at (g := g) (σ := σ) h0) (mWl_at (g := g) (σ := σ) h1) rfl rfl rfl (nI_pos (by omega)) (nI_pos (by omega)) (nI_pos (by omega)) (by rw [nI_clamp (by omega), nI_clamp (by omega)]; exact ha) (by rw [nI_clamp (by omega), nI_clamp (by omega)]; exact hb) (fun _ _ => rfl) hR (by have := mCp_w; simp only [List.map_nil, List.sum_nil]; omega) hd (fun H1 locs1 h1' _ h3 => ?_)
  rw [nI_clamp (by omega), nI_clamp (by omega), nI_clamp (by omega)] at h1'
  rw [mWl_set (σ' := mCpL σ q0 q1 a b n) rfl h1 (by simp [mCell, mCpL]) (fun _ _ => rfl) (fun j sh hj => by simp [mCell, mFs, mFv, mCpL, hj])] at h1'
  exact k hn ht H1 locs1 ls h1' h3 hl
theorem mCpD_ok (hX : mX g md p s m args meth c n0) (hok : mOkP md) {pc np bb cc i q0 q1 N0 N1 a b n : Nat} {v : Int32} {w : Int64} {r0 r1 : List (Option Nat)} {L : mLs} {sp : mSh} {σ : mHp} (hr : mIn md.2.2.2.2.2 pc = some (.invokestatic i, np, 1000, bb, cc, v, w)) (hl0 : Cond.methodLink (mCn md.2.1) i arraycopyName ∈ mTB) (h0 : sp[q0]? = some (102, N0, r0)) (h1 : sp[q1]? = some (102, N1, r1)) (l0 : q0 < 1000000) (l1 : q1 < 1000000) (ha : a + n ≤ N0) (hb : b + n ≤ N1) (hN : N0 < 2 ^ 31 ∧ N1 < 2 ^ 31) (hR : 1 ≤ R.frames) (hR2 : 41 ≤ R.locals) (k : mM g l md p e R s m args below meth c n0 t0 Q (np, L, [], sp, mCpD σ q0 q1 a b n)) : mM g l md p e R s m args below meth c n0 t0 Q (pc, L, [.int (nI n), .int (nI b), .ref q1, .int (nI a), .ref q0], sp, σ) := by
  obtain ⟨hd0, -, hx0⟩ := mRow_ok hok.1 hr
  simp only [mRx, Bool.and_eq_true, decide_eq_true_eq] at hx0
  have hd : decode md.2.2.1 pc = .ok (.invokestatic i, 3) := mDec hd0 hx0.1
  have enp := hx0.1
  subst enp
  intro hn ht H locs ls hP hS hl
  show W p l e R s m args below meth c H locs _ _ Q (F0 m pc ls [.int (nI n), .int (nI b), .ref (mAl (mGh g) q1), .int (nI a), .ref (mAl (mGh g) q0)])
  rw [mAl_lt l0, mAl_lt l1]
  refine va_copyd (own := mCn md.2.1) hX.1 hX.2.1 (by rw [hX.2.2.1]; exact hl.2.1.symm) hX.2.2.2.1 (hX.2.2.2.2.1 _ hl0) (hX.2.2.2.2.1 _ mCp_in.1) (hX.2.2.2.2.1 _ mCp_in.2.1) (hX.2.2.2.2.1 _ mCp_in.2.2) hX.2.2.2.2.2.1.1 hP (mWl_D g sp σ) hS q0 q1 2 2 (ty := .double) (mWl_at (g := g) (σ := σ) h0) (mWl_at (g := g) (σ := σ) h1) rfl rfl rfl (nI_pos (by omega)) (nI_pos (by omega)) (nI_pos (by omega)) (by rw [nI_clamp (by omega), nI_clamp (by omega)]; exact ha) (by rw [nI_clamp (by omega), nI_clamp (by omega)]; exact hb) (fun _ _ => rfl) hR (by have := mCp_w; simp only [List.map_nil, List.sum_nil]; omega) hd (fun H1 locs1 h1' _ h3 => ?_)
  rw [nI_clamp (by omega), nI_clamp (by omega), nI_clamp (by omega)] at h1'
  rw [mWl_set (σ' := mCpD σ q0 q1 a b n) rfl h1 (by simp [mCell, mCpD]) (fun _ _ => rfl) (fun j sh hj => by simp [mCell, mFs, mFv, mCpD, hj])] at h1'
  exact k hn ht H1 locs1 ls h1' h3 hl
end MS
section MG
variable {g : mG} {l : Launch} {d : Nat} {md : mMd} {n0 t0 : Nat} {Post : Option Value → mSh → mHp → Prop}
theorem mGo_cpI {pc np bb cc i q0 q1 N0 N1 a b n : Nat} {v : Int32} {w : Int64} {r0 r1 : List (Option Nat)} {L : mLs} {sp : mSh} {σ : mHp} (hok : mOkP md) (hr : mIn md.2.2.2.2.2 pc = some (.invokestatic i, np, 1000, bb, cc, v, w)) (hl0 : Cond.methodLink (mCn md.2.1) i arraycopyName ∈ mTB) (h0 : sp[q0]? = some (100, N0, r0)) (h1 : sp[q1]? = some (100, N1, r1)) (l0 : q0 < 1000000) (l1 : q1 < 1000000) (ha : a + n ≤ N0) (hb : b + n ≤ N1) (hN : N0 < 2 ^ 31 ∧ N1 < 2 ^ 31) (hd : 1 ≤ d) (k : mGo g l d md n0 t0 (np, L, [], sp, mCpI σ q0 q1 a b n) Post) : mGo g l d md n0 t0 (pc, L, [.int (nI n), .int (nI b), .ref q1, .int (nI a), .ref q0], sp, σ) Post := by
  obtain ⟨r, sp2, σ2, a1, a2, a3, a4⟩ := k
  exact ⟨r, sp2, σ2, a1, a2, a3, fun p e R s m args below meth c hX b1 b2 b3 b4 => mCpI_ok hX hok hr hl0 h0 h1 l0 l1 ha hb hN (by omega) (by omega) (a4 p e R s m args below meth c hX b1 b2 b3 b4)⟩
theorem mGo_cpL {pc np bb cc i q0 q1 N0 N1 a b n : Nat} {v : Int32} {w : Int64} {r0 r1 : List (Option Nat)} {L : mLs} {sp : mSh} {σ : mHp} (hok : mOkP md) (hr : mIn md.2.2.2.2.2 pc = some (.invokestatic i, np, 1000, bb, cc, v, w)) (hl0 : Cond.methodLink (mCn md.2.1) i arraycopyName ∈ mTB) (h0 : sp[q0]? = some (101, N0, r0)) (h1 : sp[q1]? = some (101, N1, r1)) (l0 : q0 < 1000000) (l1 : q1 < 1000000) (ha : a + n ≤ N0) (hb : b + n ≤ N1) (hN : N0 < 2 ^ 31 ∧ N1 < 2 ^ 31) (hd : 1 ≤ d) (k : mGo g l d md n0 t0 (np, L, [], sp, mCpL σ q0 q1 a b n) Post) : mGo g l d md n0 t0 (pc, L, [.int (nI n), .int (nI b), .ref q1, .int (nI a), .ref q0], sp, σ) Post := by
  obtain ⟨r, sp2, σ2, a1, a2, a3, a4⟩ := k
  exact ⟨r, sp2, σ2, a1, a2, a3, fun p e R s m args below meth c hX b1 b2 b3 b4 => mCpL_ok hX hok hr hl0 h0 h1 l0 l1 ha hb hN (by omega) (by omega) (a4 p e R s m args below meth c hX b1 b2 b3 b4)⟩
theorem mGo_cpD {pc np bb cc i q0 q1 N0 N1 a b n : Nat} {v : Int32} {w : Int64} {r0 r1 : List (Option Nat)} {L : mLs} {sp : mSh} {σ : mHp} (hok : mOkP md) (hr : mIn md.2.2.2.2.2 pc = some (.invokestatic i, np, 1000, bb, cc, v, w)) (hl0 : Cond.methodLink (mCn md.2.1) i arraycopyName ∈ mTB) (h0 : sp[q0]? = some (102, N0, r0)) (h1 : sp[q1]? = some (102, N1, r1)) (l0 : q0 < 1000000) (l1 : q1 < 1000000) (ha : a + n ≤ N0) (hb : b + n ≤ N1) (hN : N0 < 2 ^ 31 ∧ N1 < 2 ^ 31) (hd : 1 ≤ d) (k : mGo g l d md n0 t0 (np, L, [], sp, mCpD σ q0 q1 a b n) Post) : mGo g l d md n0 t0 (pc, L, [.int (nI n), .int (nI b), .ref q1, .int (nI a), .ref q0], sp, σ) Post := by
  obtain ⟨r, sp2, σ2, a1, a2, a3, a4⟩ := k
  exact ⟨r, sp2, σ2, a1, a2, a3, fun p e R s m args below meth c hX b1 b2 b3 b4 => mCpD_ok hX hok hr hl0 h0 h1 l0 l1 ha hb hN (by omega) (by omega) (a4 p e R s m args below meth c hX b1 b2 b3 b4)⟩
end MG
