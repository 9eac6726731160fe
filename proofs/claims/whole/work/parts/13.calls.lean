/-! what is made, calls, returns -/
theorem mFt_le : ∀ ci, ci < 10 → ∀ k, k < mNf ci → defaultValue (mTy ci k) = (if mFt ci k = 1 then .long 0 else if mFt ci k = 2 then .null else .int 0) := by decide +kernel
section MS
variable {g : mG} {l : Launch} {md : mMd} {p : Program} {e : Env} {R : Room} {s : State} {m : MethodId} {args : Array Value} {below : List Frame} {meth : Method} {c : Code} {n0 t0 : Nat} {Q : State → Prop}
/-- a new cell lies right behind the others -/
theorem mNewq {sp : mSh} {σ : mHp} {H1 : Heap} {q : Nat} {en : va_E} (hP : va_P (mGD g) vwCl (mWl g sp σ ++ [(q, en)]) H1) (hD : va_D (mA g) (mWl g sp σ ++ [(q, en)])) (hz : H1.size ≤ mGh g + sp.length + 1) : q = mGh g + sp.length := by
  have h1 : (mWl g sp σ ++ [(q, en)])[sp.length]? = some (q, en) := by
    rw [List.getElem?_append_right (by rw [mWl_len]; exact Nat.le_refl _), mWl_len]
    simp
  have h2 := (hP _ _ h1).lt
  have h3 : mGh g ≤ q := hD.2 _ _ h1
  have h2 : q < H1.size := h2
  rcases Nat.lt_or_ge q (mGh g + sp.length) with h | h
  · exfalso
    have hlt : q - mGh g < sp.length := by omega
    have h4 : sp[q - mGh g]? = some sp[q - mGh g] := List.getElem?_eq_getElem hlt
    have h5 : (mWl g sp σ ++ [(q, en)])[q - mGh g]? = some (mGh g + (q - mGh g), mCell g σ (q - mGh g) sp[q - mGh g]) := by
      rw [List.getElem?_append_left (by rw [mWl_len]; exact hlt)]
      exact mWl_at h4
    have h6 := hD.1 _ _ _ _ h1 h5 (by show q = mGh g + (q - mGh g); omega)
    omega
  · omega
theorem mTot_app (sp : mSh) (x : Nat × Nat × List (Option Nat)) : mTot (sp ++ [x]) = mTot sp + x.2.1 := by simp [mTot]
theorem mA_of (hX : mX g md p s m args meth c n0) : ∀ q : Nat, s.heap.size ≤ q → mA g q := fun q h => by
  have := hX.2.2.2.2.2.2.2.2.1
  show mGh g ≤ q
  omega
theorem mNewa_ok (hX : mX g md p s m args meth c n0) (hok : mOkP md) {pc np a b cc N : Nat} {v : Int32} {w : Int64} {ty : Jvm.ClassFile.ArrayType} {L : mLs} {t : List Value} {sp : mSh} {σ : mHp} (hr : mIn md.2.2.2.2.2 pc = some (.newarray ty, np, a, b, cc, v, w)) (hN : N ≤ 1000000) (hRc : sp.length + 1 - n0 ≤ R.cells) (hRs : mTot sp + N - t0 ≤ R.slots) (hlt : sp.length < 1000000) (k : mM g l md p e R s m args below meth c n0 t0 Q (np, L, .ref sp.length :: t, sp ++ [(a, N, [])], mNew σ sp.length)) : mM g l md p e R s m args below meth c n0 t0 Q (pc, L, .int (nI N) :: t, sp, σ) := by
  obtain ⟨hd0, -, hx0⟩ := mRow_ok hok.1 hr
  have hK := hX.2.2.2.2.2.1.1
  intro hn ht H locs ls hP hS hl
  have hn : n0 ≤ sp.length := hn
  have ht : t0 ≤ mTot sp := ht
  have main : ∀ (kd : Nat) (fty : FieldType) (a0 : vp_A) (i0 : Nat), a = kd → np = pc + 2 → newarray.typeOf ty = fty → Cond.arrayClass fty ∈ mTB → (∀ cA : ClassId, vp_cell cA a0 = arrV cA N (fun _ => defaultValue fty)) → N * componentBytes fty ≤ 536870912 → (mTys g)[i0]? = some (mGc g i0, fty) → (∀ (cA : ClassId), va_RA s cA fty → va_RA s (mGc g i0) fty → cA = mGc g i0) → mCell g (mNew σ sp.length) sp.length (kd, N, []) = .inl (mGc g i0, a0) → W p l e R s m args below meth c H locs (sp.length - n0) (mTot sp - t0) Q (F0 m pc ls (.int (nI N) :: t.map (mE (mGh g)))) := by
    intro kd fty a0 i0 ea enp ety hin ha0 hby hty0 hRA hce
    subst ea
    subst enp
    have hd : decode md.2.2.1 pc = .ok (.newarray ty, 2) := mDec hd0 rfl
    refine va_newa (atype := ty) hX.1 hX.2.1 (by rw [ety]; exact hX.2.2.2.2.1 _ hin) ety hK hP (mWl_D g sp σ) hS (mA_of hX) ha0 (nI_pos (by omega)) (nI_clamp (by omega)) hby (by omega) (by omega) hd (fun q cA H1 hK1 hP1 hD1 hS1 => ?_)
    intro T1 hT1 X1
    have hz : H1.size ≤ mGh g + sp.length + 1 := by
      have h1 := X1.heapSize
      rw [hT1, hX.2.2.2.2.2.2.2.2.1] at h1
      omega
    have hq := mNewq hP1 hD1 hz
    have hcA : cA = mGc g i0 := by
      have h1 : (mTys g ++ [(cA, fty)])[4]? = some (cA, fty) := rfl
      exact hRA cA (hK1.2 4 _ h1).2 (hK.2 i0 _ hty0).2
    subst hcA
    subst hq
    rw [mWl_push (sh := (a, N, [])) (σ' := mNew σ sp.length) hce (fun j sh hj => mCell_New hj)] at hP1
    have K := k (by show n0 ≤ (sp ++ [(a, N, [])]).length; simp; omega) (by show t0 ≤ mTot (sp ++ [(a, N, [])]); rw [mTot_app]; omega) H1 locs ls hP1 hS1 hl
    have K : W p l e R s m args below meth c H1 locs ((sp ++ [(a, N, [])]).length - n0) (mTot (sp ++ [(a, N, [])]) - t0) Q (F0 m (pc + 2) ls (.ref (mAl (mGh g) sp.length) :: t.map (mE (mGh g)))) := K
    rw [mAl_lt hlt, mTot_app, List.length_append, show sp.length + [(a, N, ([] : List (Option Nat)))].length - n0 = sp.length - n0 + 1 by simp; omega, show mTot sp + (a, N, ([] : List (Option Nat))).2.1 - t0 = mTot sp - t0 + N by show mTot sp + N - t0 = _; omega] at K
    exact K T1 hT1 X1
  cases ty with
  | int =>
    simp only [mRx, Bool.and_eq_true, decide_eq_true_eq] at hx0
    obtain ⟨h1, h2⟩ := hx0
    split at h2 <;> simp at h2
    all_goals first
      | exact main 100 .int (N, .inl (fun _ => 0)) 0 rfl h1 rfl (mAr_in _ (by decide)) (fun cA => rfl) (by simp [componentBytes]; omega) rfl (fun cA x1 x2 => Option.some.inj (x1.symm.trans x2)) (by simp [mCell, mNew])
      | contradiction
  | long =>
    simp only [mRx, Bool.and_eq_true, decide_eq_true_eq] at hx0
    obtain ⟨h1, h2⟩ := hx0
    split at h2 <;> simp at h2
    all_goals first
      | exact main 101 .long (N, .inr (.inl (fun _ => 0))) 1 rfl h1 rfl (mAr_in _ (by decide)) (fun cA => rfl) (by simp [componentBytes]; omega) rfl (fun cA x1 x2 => Option.some.inj (x1.symm.trans x2)) (by simp [mCell, mNew])
      | contradiction
  | double =>
    simp only [mRx, Bool.and_eq_true, decide_eq_true_eq] at hx0
    obtain ⟨h1, h2⟩ := hx0
    split at h2 <;> simp at h2
    all_goals first
      | exact main 102 .double (N, .inr (.inr (.inr (.inl (fun _ => 0))))) 2 rfl h1 rfl (mAr_in _ (by decide)) (fun cA => rfl) (by simp [componentBytes]; omega) rfl (fun cA x1 x2 => Option.some.inj (x1.symm.trans x2)) (by simp [mCell, mNew])
      | contradiction
  | _ =>
    simp only [mRx, Bool.and_eq_true, decide_eq_true_eq] at hx0
    obtain ⟨h1, h2⟩ := hx0
    cases h2
theorem mNewo_ok (hX : mX g md p s m args meth c n0) (hok : mOkP md) {pc np a b cc i : Nat} {v : Int32} {w : Int64} {L : mLs} {st : List Value} {sp : mSh} {σ : mHp} (hr : mIn md.2.2.2.2.2 pc = some (.new i, np, a, b, cc, v, w)) (hRc : sp.length + 1 - n0 ≤ R.cells) (hRs : mTot sp + b - t0 ≤ R.slots) (hlt : sp.length < 1000000) (k : mM g l md p e R s m args below meth c n0 t0 Q (np, L, .ref sp.length :: st, sp ++ [(a, b, List.replicate b none)], mNew σ sp.length)) : mM g l md p e R s m args below meth c n0 t0 Q (pc, L, st, sp, σ) := by
  obtain ⟨hd0, -, hx0⟩ := mRow_ok hok.1 hr
  have hK := hX.2.2.2.2.2.1.1
  simp only [mRx, decide_eq_true_eq] at hx0
  obtain ⟨e1, e2, e3, e4, e5⟩ := hx0
  subst e1
  have hd : decode md.2.2.1 pc = .ok (.new i, 3) := mDec hd0 rfl
  obtain ⟨q, hq, hqm, hqn, hqd⟩ := mCl_of e3
  have hqc : q.1 = mCn a := by
    match a, e3, hq with
    | 0, _, hq => cases hq; rfl
    | 1, _, hq => cases hq; rfl
    | 2, _, hq => cases hq; rfl
    | 3, _, hq => cases hq; rfl
    | 4, _, hq => cases hq; rfl
    | 5, _, hq => cases hq; rfl
    | 6, _, hq => cases hq; rfl
    | 7, _, hq => cases hq; rfl
    | 8, _, hq => cases hq; rfl
    | 9, _, hq => cases hq; rfl
  intro hn ht H locs ls hP hS hl
  have hn : n0 ≤ sp.length := hn
  have ht : t0 ≤ mTot sp := ht
  have hbn : q.2.2 = b := by rw [hqn, e4]
  show W p l e R s m args below meth c H locs (sp.length - n0) (mTot sp - t0) Q (F0 m pc ls (st.map (mE (mGh g))))
  refine va_new (ci := a) (fs := mFs (mGh g) (mNew σ sp.length) sp.length (a, b, List.replicate b none)) (C := q.1) (T := q.2.1) (N := q.2.2) hX.1 hX.2.1 hX.2.2.2.2.1 (mLay_tb q hqm) (mTy a) (mTy_ok hq) hX.2.2.2.1 (by rw [hqc]; exact hX.2.2.2.2.1 _ (mCL_in _ e2)) (hX.2.2.2.2.1 _ (mIn_tb (q.1, q.2.2) (List.mem_map_of_mem hqm))) (by rw [hqc]; exact hX.2.2.2.2.1 _ (mNv_in _ e5)) hK hP (mWl_D g sp σ) hS (mA_of hX) hq (fun j hj => ?_) (by omega) (by rw [hbn]; omega) hd (fun x H1 hP1 hD1 hS1 => ?_)
  · rw [mFt_le a e3 j (by rw [← hqn]; exact hj)]
    have hjb : j < b := by rw [← hbn]; exact hj
    have h1 : (mFs (mGh g) (mNew σ sp.length) sp.length (a, b, List.replicate b none))[j]? = _ := mFs_at (sh := (a, b, List.replicate b none)) hjb
    simp only [vp_V, List.getD_eq_getElem?_getD, h1, Option.getD_some]
    have h2 : (List.replicate b (none : Option Nat))[j]?.getD none = none := by
      rw [List.getElem?_replicate]; split <;> rfl
    by_cases c1 : mFt a j = 1
    · simp [mFv, mNew, c1]
    · by_cases c2 : mFt a j = 2
      · simp [mFv, c2, h2, va_rf]
      · simp [mFv, mNew, c1, c2]
  · intro T1 hT1 X1
    have hz : H1.size ≤ mGh g + sp.length + 1 := by
      have h1 := X1.heapSize
      rw [hT1, hX.2.2.2.2.2.2.2.2.1] at h1
      omega
    have hx := mNewq hP1 hD1 hz
    subst hx
    rw [mWl_push (sh := (a, b, List.replicate b none)) (σ' := mNew σ sp.length) (mCell_obj e3) (fun j sh hj => mCell_New hj)] at hP1
    have K := k (by show n0 ≤ (sp ++ [(a, b, List.replicate b none)]).length; simp; omega) (by show t0 ≤ mTot (sp ++ [(a, b, List.replicate b none)]); rw [mTot_app]; omega) H1 locs ls hP1 hS1 hl
    have K : W p l e R s m args below meth c H1 locs ((sp ++ [(a, b, List.replicate b none)]).length - n0) (mTot (sp ++ [(a, b, List.replicate b none)]) - t0) Q (F0 m (pc + 3) ls (.ref (mAl (mGh g) sp.length) :: st.map (mE (mGh g)))) := K
    rw [mAl_lt hlt, mTot_app, List.length_append, show sp.length + [(a, b, List.replicate b (none : Option Nat))].length - n0 = sp.length - n0 + 1 by simp; omega, show mTot sp + (a, b, List.replicate b (none : Option Nat)).2.1 - t0 = mTot sp - t0 + q.2.2 by show mTot sp + b - t0 = _; omega] at K
    exact K T1 hT1 X1
theorem mNewq_ok (hX : mX g md p s m args meth c n0) (hok : mOkP md) {pc np a b cc i N : Nat} {v : Int32} {w : Int64} {L : mLs} {t : List Value} {sp : mSh} {σ : mHp} (hr : mIn md.2.2.2.2.2 pc = some (.anewarray i, np, a, b, cc, v, w)) (hN : N ≤ 1000000) (hRc : sp.length + 1 - n0 ≤ R.cells) (hRs : mTot sp + N - t0 ≤ R.slots) (hlt : sp.length < 1000000) (k : mM g l md p e R s m args below meth c n0 t0 Q (np, L, .ref sp.length :: t, sp ++ [(103, N, List.replicate N none)], mNew σ sp.length)) : mM g l md p e R s m args below meth c n0 t0 Q (pc, L, .int (nI N) :: t, sp, σ) := by
  obtain ⟨hd0, -, hx0⟩ := mRow_ok hok.1 hr
  have hK := hX.2.2.2.2.2.1.1
  simp only [mRx, decide_eq_true_eq] at hx0
  obtain ⟨e1, e2⟩ := hx0
  subst e1
  have hd : decode md.2.2.1 pc = .ok (.anewarray i, 3) := mDec hd0 rfl
  intro hn ht H locs ls hP hS hl
  have hn : n0 ≤ sp.length := hn
  have ht : t0 ≤ mTot sp := ht
  show W p l e R s m args below meth c H locs (sp.length - n0) (mTot sp - t0) Q (F0 m pc ls (.int (nI N) :: t.map (mE (mGh g))))
  refine va_newq (C := RX5) hX.1 hX.2.1 hX.2.2.2.1 (hX.2.2.2.2.1 _ (mCL_in _ e2)) hX.2.2.2.2.2.1.2.2.2.1 hK hP (mWl_D g sp σ) hS (mA_of hX) (nI_pos (by omega)) (nI_clamp (by omega)) (by omega) (by omega) (by omega) hd (fun q cA H1 hK1 hP1 hD1 hS1 => ?_)
  intro T1 hT1 X1
  have hz : H1.size ≤ mGh g + sp.length + 1 := by
    have h1 := X1.heapSize
    rw [hT1, hX.2.2.2.2.2.2.2.2.1] at h1
    omega
  have hq := mNewq hP1 hD1 hz
  have hcA : cA = mGc g 3 := by
    have h1 : (mTys g ++ [(cA, FieldType.object RX5)])[4]? = some (cA, .object RX5) := rfl
    have h2 : (mTys g)[3]? = some (mGc g 3, .object RX5) := rfl
    obtain ⟨_, _, _, _, _, x1⟩ := (hK1.2 4 _ h1).2
    obtain ⟨_, _, _, _, _, x2⟩ := (hK.2 3 _ h2).2
    exact Option.some.inj (x1.symm.trans x2)
  subst hcA
  subst hq
  rw [mWl_push (sh := (103, N, List.replicate N none)) (σ' := mNew σ sp.length) (by
    simp only [mCell]
    rw [if_neg (by decide), if_neg (by decide), if_neg (by decide), if_pos trivial]
    congr 7
    funext j
    have h2 : (List.replicate N (none : Option Nat)).getD j none = none := by
      rw [List.getD_eq_getElem?_getD, List.getElem?_replicate]; split <;> rfl
    rw [h2]; rfl) (fun j sh hj => mCell_New hj)] at hP1
  have K := k (by show n0 ≤ (sp ++ [(103, N, List.replicate N none)]).length; simp; omega) (by show t0 ≤ mTot (sp ++ [(103, N, List.replicate N none)]); rw [mTot_app]; omega) H1 locs ls hP1 hS1 hl
  have K : W p l e R s m args below meth c H1 locs ((sp ++ [(103, N, List.replicate N none)]).length - n0) (mTot (sp ++ [(103, N, List.replicate N none)]) - t0) Q (F0 m (pc + 3) ls (.ref (mAl (mGh g) sp.length) :: t.map (mE (mGh g)))) := K
  rw [mAl_lt hlt, mTot_app, List.length_append, show sp.length + [(103, N, List.replicate N (none : Option Nat))].length - n0 = sp.length - n0 + 1 by simp; omega, show mTot sp + (103, N, List.replicate N (none : Option Nat)).2.1 - t0 = mTot sp - t0 + N by show mTot sp + N - t0 = _; omega] at K
  exact K T1 hT1 X1
/-- a reference is put into the array of slots -/
theorem mAst_ok (hX : mX g md p s m args meth c n0) (hok : mOkP md) {pc np a b cc q j n n2 : Nat} {v i : Int32} {w : Int64} {r r2 : List (Option Nat)} {L : mLs} {t : List Value} {sp : mSh} {σ : mHp} {cf : mCf} (hr : mIn md.2.2.2.2.2 pc = some (.aastore, np, a, b, cc, v, w)) (hat : sp[q]? = some (103, n, r)) (hlt : q < 1000000) (hat2 : sp[j]? = some (5, n2, r2)) (hlt2 : j < 1000000) (hi : vp_in i n) (h : mSpS sp q i.toNatClampNeg (some j) (fun sp1 => some (np, L, t, sp1, σ)) = some cf) (k : mM g l md p e R s m args below meth c n0 t0 Q cf) : mM g l md p e R s m args below meth c n0 t0 Q (pc, L, .ref j :: .int i :: .ref q :: t, sp, σ) := by
  obtain ⟨hd0, -, hx0⟩ := mRow_ok hok.1 hr
  have hK := hX.2.2.2.2.2.1.1
  have e1 : np = pc + 1 := of_decide_eq_true hx0
  subst e1
  have hd : decode md.2.2.1 pc = .ok (.aastore, 1) := mDec hd0 rfl
  obtain ⟨sh, g1, g2, g3⟩ := mSpS_spec h
  rw [hat] at g1
  cases g1
  cases g3
  intro hn ht H locs ls hP hS hl
  show W p l e R s m args below meth c H locs _ _ Q (F0 m pc ls (.ref (mAl (mGh g) j) :: .int i :: .ref (mAl (mGh g) q) :: t.map (mE (mGh g))))
  rw [mAl_lt hlt, mAl_lt hlt2]
  have hj := mWl_at (g := g) (σ := σ) hat2
  rw [mCell_obj (by decide)] at hj
  have hlq : q < sp.length := (List.getElem?_eq_some_iff.mp hat).1
  refine va_astq (ci := 5) (r := (RX5, TX5, 5)) hX.1 hX.2.1 hK hP (mWl_D g sp σ) hS q 3 j (mWl_at (g := g) (σ := σ) hat) rfl hj rfl hi hd (fun H1 locs1 h1 _ h3 => ?_)
  rw [mWl_set (sp' := sp.set q (103, n, r.set i.toNatClampNeg (some j))) (σ' := σ) (sh := (103, n, r.set i.toNatClampNeg (some j))) (by simp) (by simp [hlq]) (by
    simp only [mCell]
    rw [if_neg (by decide), if_neg (by decide), if_neg (by decide), if_pos trivial]
    congr 7
    funext x
    by_cases hx : x = i.toNatClampNeg
    · subst hx
      rw [List.getD_eq_getElem?_getD, List.getElem?_set_self g2]
      simp [va_up, mAl_lt hlt2]
    · rw [List.getD_eq_getElem?_getD, List.getElem?_set_ne (fun z => hx z.symm), ← List.getD_eq_getElem?_getD]
      simp [va_up, hx]) (fun x hx => List.getElem?_set_ne (fun z => hx z.symm)) (fun _ _ _ => rfl)] at h1
  have K := k (by show n0 ≤ (sp.set q (103, n, r.set i.toNatClampNeg (some j))).length; simpa using hn) (by show t0 ≤ mTot (sp.set q (103, n, r.set i.toNatClampNeg (some j))); rw [mTot_set hat]; exact ht) H1 locs1 ls h1 h3 hl
  have K : W p l e R s m args below meth c H1 locs1 ((sp.set q (103, n, r.set i.toNatClampNeg (some j))).length - n0) (mTot (sp.set q (103, n, r.set i.toNatClampNeg (some j))) - t0) Q (F0 m (pc + 1) ls (t.map (mE (mGh g)))) := K
  rw [mTot_set hat, List.length_set] at K
  exact K
/-- Object's constructor -/
theorem mObj_ok (hX : mX g md p s m args meth c n0) (hok : mOkP md) {pc np b cc i ix : Nat} {v : Int32} {w : Int64} {L : mLs} {sp : mSh} {σ : mHp} (hr : mIn md.2.2.2.2.2 pc = some (.invokespecial i, np, 1010, b, cc, v, w)) (hl0 : Cond.methodLink (mCn md.2.1) i Lib.objectInit ∈ mTB) (hR : 1 ≤ R.frames) (hR2 : 41 ≤ R.locals) (k : mM g l md p e R s m args below meth c n0 t0 Q (np, L, [], sp, σ)) : mM g l md p e R s m args below meth c n0 t0 Q (pc, L, [.ref ix], sp, σ) := by
  obtain ⟨hd0, -, hx0⟩ := mRow_ok hok.1 hr
  have e1 : np = pc + 3 := by
    simp only [mRx, Bool.and_eq_true, decide_eq_true_eq] at hx0
    exact hx0.1
  subst e1
  have hd : decode md.2.2.1 pc = .ok (.invokespecial i, 3) := mDec hd0 rfl
  intro hn ht H locs ls hP hS hl
  have K := k hn ht H locs ls hP hS hl
  exact W.objInit hX.1 hX.2.1 hX.2.2.2.1 (hX.2.2.2.2.1 _ hl0) (hX.2.2.2.2.1 _ mObj_in.1) (hX.2.2.2.2.1 _ mObj_in.2) rfl (by rw [hX.2.2.1]; exact hl.2.1) rfl hd hR (by show 2 * 0 + (([] : List Value).map fun v => v.category).sum + 12 ≤ R.locals; simp; omega) K
end MS
