/-! a method's entry; further rules of the judgement -/
def mL0 {β : Type} : Nat → List Value → (mLs → Option β) → Option β
  | 0, [], k => k []
  | 0, _ :: _, _ => none
  | n + 1, [], k => mL0 n [] (fun t => k (none :: t))
  | n + 2, .long x :: vs, k => mL0 n vs (fun t => k (some (.long x) :: none :: t))
  | n + 2, .double x :: vs, k => mL0 n vs (fun t => k (some (.double x) :: none :: t))
  | 1, .long _ :: _, _ => none
  | 1, .double _ :: _, _ => none
  | n + 1, v :: vs, k => mL0 n vs (fun t => k (some v :: t))
theorem mL0_spec {β : Type} {h : Nat} : ∀ {n : Nat} {as : List Value} {k : mLs → Option β} {b : β}, mL0 n as k = some b → ∃ L, k L = some b ∧ L.length = n ∧ (lg_sl (as.map (mE h))).length ≤ n ∧ ∀ i q, q ∈ mLp h i L → q ∈ lv_args i (as.map (mE h)) := by
  intro n
  induction n using Nat.strongRecOn with
  | _ n ih =>
  intro as k b hh
  match n, as, ih, hh with
  | 0, [], ih, hh => exact ⟨[], hh, rfl, by simp [lg_sl], fun i q hq => by simp [mLp] at hq⟩
  | 0, _ :: _, ih, hh => simp [mL0] at hh
  | n + 1, [], ih, hh =>
    simp only [mL0] at hh
    obtain ⟨L, h1, h2, h3, h4⟩ := ih n (by omega) hh
    exact ⟨none :: L, h1, by simp [h2], by simp [lg_sl], fun i q hq => by
      have := h4 (i + 1) q hq
      simp [lv_args] at this⟩
  | 1, v :: vs, ih, hh =>
    cases v with
    | long x => simp [mL0] at hh
    | double x => simp [mL0] at hh
    | _ =>
      simp only [mL0] at hh
      obtain ⟨L, h1, h2, h3, h4⟩ := ih 0 (by omega) hh
      refine ⟨some _ :: L, h1, by simp [h2], by simp [lg_sl, mE, Value.category] at h3 ⊢; exact h3, fun i q hq => ?_⟩
      rcases List.mem_cons.mp hq with rfl | hq
      · exact List.mem_cons_self
      · exact List.mem_cons_of_mem _ (h4 (i + 1) q hq)
  | n + 2, v :: vs, ih, hh =>
    cases v with
    | long x =>
      simp only [mL0] at hh
      obtain ⟨L, h1, h2, h3, h4⟩ := ih n (by omega) hh
      refine ⟨some _ :: none :: L, h1, by simp [h2], by simp [lg_sl, mE, Value.category] at h3 ⊢; omega, fun i q hq => ?_⟩
      rcases List.mem_cons.mp hq with rfl | hq
      · exact List.mem_cons_self
      · exact List.mem_cons_of_mem _ (h4 (i + 1 + 1) q hq)
    | double x =>
      simp only [mL0] at hh
      obtain ⟨L, h1, h2, h3, h4⟩ := ih n (by omega) hh
      refine ⟨some _ :: none :: L, h1, by simp [h2], by simp [lg_sl, mE, Value.category] at h3 ⊢; omega, fun i q hq => ?_⟩
      rcases List.mem_cons.mp hq with rfl | hq
      · exact List.mem_cons_self
      · exact List.mem_cons_of_mem _ (h4 (i + 1 + 1) q hq)
    | _ =>
      simp only [mL0] at hh
      obtain ⟨L, h1, h2, h3, h4⟩ := ih (n + 1) (by omega) hh
      refine ⟨some _ :: L, h1, by simp [h2], by simp [lg_sl, mE, Value.category] at h3 ⊢; omega, fun i q hq => ?_⟩
      rcases List.mem_cons.mp hq with rfl | hq
      · exact List.mem_cons_self
      · exact List.mem_cons_of_mem _ (h4 (i + 1) q hq)
section MG
variable {g : mG} {l : Launch} {d : Nat} {md : mMd} {n0 t0 : Nat} {Post : Option Value → mSh → mHp → Prop}
/-- a method's contract out of the walk of its body -/
theorem mC_of {a : Nat} {as : List Value} {sp : mSh} {σ : mHp} {L : mLs} (hmd : mD a = md) (ha : a < mdL.length) (hL : mL0 md.2.2.2.1 as some = some L) (k : mGo g l d md sp.length (mTot sp) (0, L, [], sp, σ) Post) : mC g l d a as sp σ Post := by
  subst hmd
  obtain ⟨r, sp1, σ1, h1, h2, h3, h4⟩ := k
  have h1 : sp.length ≤ sp1.length := h1
  have h2 : mTot sp ≤ mTot sp1 := h2
  obtain ⟨m1, m2, m3⟩ := mMdD ha
  refine ⟨r, sp1, σ1, ⟨h1, h2, ?_⟩, h3⟩
  refine va_MetF (cc := (mD a).2.2.1) (maxL := (mD a).2.2.2.1) (ret := (mD a).2.2.2.2.1) m2 mCoW ?_
  intro p e s m args below meth c s₁ B hml hv
  obtain ⟨rfl, hz, hH, hP, hK⟩ := hv
  have hts := atoms_spec (ws := mWs a) B.pre
  have hown : s.vm.findClass (mD a).1.cls = some m.cls := findClass_of_methodNamed B.named
  have hin : meth.name = (mD a).1.name := (name_of_methodNamed B.named B.method).1
  have hX : mX g (mD a) p s m (as.map (mE (mGh g))).toArray meth c sp.length := ⟨B.exec, B.bytes, hml, by rw [← m1]; exact hown, fun w hw => hts w (List.mem_cons_of_mem _ hw), hK, B.returns, B.notSynchronized, hz, hH, hin⟩
  have M := h4 p e (headSpec (mWs a) (mRm d (sp1.length - sp.length) (mTot sp1 - mTot sp))).room s m (as.map (mE (mGh g))).toArray below meth c hX (Nat.le_refl _) (Nat.le_refl _) (Nat.le_refl _) (Nat.le_refl _)
  obtain ⟨L', e1, e2, e3, e4⟩ := mL0_spec (h := mGh g) hL
  cases e1
  rw [lg_entry_eq]
  have hl := lv_entry (as.map (mE (mGh g))) (n := (mD a).2.2.2.1) e3
  have W1 := M (Nat.le_refl _) (Nat.le_refl _) s.heap [] _ hP va_S.rf ⟨e2, hl.1, hl.2.1, fun q hq => hl.2.2 q (e4 0 q hq)⟩
  have W1 : W p l e (headSpec (mWs a) (mRm d (sp1.length - sp.length) (mTot sp1 - mTot sp))).room s m (as.map (mE (mGh g))).toArray below meth c s.heap [] (sp.length - sp.length) (mTot sp - mTot sp) _ (F0 m 0 _ []) := W1
  rw [Nat.sub_self, Nat.sub_self] at W1
  exact W1
theorem mC_mono {a : Nat} {as : List Value} {sp : mSh} {σ : mHp} {P1 P2 : Option Value → mSh → mHp → Prop} (h : mC g l d a as sp σ P1) (h2 : ∀ r sp1 σ1, P1 r sp1 σ1 → P2 r sp1 σ1) : mC g l d a as sp σ P2 := by
  obtain ⟨r, sp1, σ1, h1, h3⟩ := h
  exact ⟨r, sp1, σ1, h1, h2 _ _ _ h3⟩
theorem mGo_mono {cf : mCf} {P1 P2 : Option Value → mSh → mHp → Prop} (h : mGo g l d md n0 t0 cf P1) (h2 : ∀ r sp1 σ1, P1 r sp1 σ1 → P2 r sp1 σ1) : mGo g l d md n0 t0 cf P2 := by
  obtain ⟨r, sp1, σ1, a1, a2, a3, a4⟩ := h
  exact ⟨r, sp1, σ1, a1, a2, h2 _ _ _ a3, a4⟩
/-- fewer locals are known -/
def mLe : mLs → mLs → Prop
  | [], [] => True
  | none :: t, _ :: t1 => mLe t t1
  | some v :: t, x :: t1 => x = some v ∧ mLe t t1
  | _, _ => False
theorem mLe_spec : ∀ {L' L : mLs}, mLe L' L → L'.length = L.length ∧ ∀ (j : Nat) (w : Value), L'[j]? = some (some w) → L[j]? = some (some w) := by
  intro L'
  induction L' with
  | nil => intro L h; cases L with
    | nil => exact ⟨rfl, fun j w h => h⟩
    | cons a t => simp [mLe] at h
  | cons a t ih =>
    intro L h
    cases L with
    | nil => cases a <;> simp [mLe] at h
    | cons b t1 =>
      cases a with
      | none =>
        obtain ⟨i1, i2⟩ := ih (show mLe t t1 from h)
        exact ⟨by simp [i1], fun j w hj => by
          cases j with
          | zero => simp at hj
          | succ j => simpa using i2 j w (by simpa using hj)⟩
      | some v =>
        obtain ⟨h1, h2⟩ := (show b = some v ∧ mLe t t1 from h)
        subst h1
        obtain ⟨i1, i2⟩ := ih h2
        exact ⟨by simp [i1], fun j w hj => by
          cases j with
          | zero => simpa using hj
          | succ j => simpa using i2 j w (by simpa using hj)⟩
theorem mGo_weak {pc : Nat} {L L' : mLs} {st : List Value} {sp : mSh} {σ : mHp} (h : mLe L' L) (k : mGo g l d md n0 t0 (pc, L', st, sp, σ) Post) : mGo g l d md n0 t0 (pc, L, st, sp, σ) Post := by
  obtain ⟨r, sp1, σ1, a1, a2, a3, a4⟩ := k
  refine ⟨r, sp1, σ1, a1, a2, a3, fun p e R s m args below meth c hX b1 b2 b3 b4 => ?_⟩
  intro hn ht H locs ls hP hS hl
  obtain ⟨h1, h2⟩ := mLe_spec h
  exact a4 p e R s m args below meth c hX b1 b2 b3 b4 hn ht H locs ls hP hS (hl.weak h1 h2)
/-- new arrays and objects: i is the number of the new cell -/
theorem mGo_newa {pc np a b cc i N : Nat} {v : Int32} {w : Int64} {ty : Jvm.ClassFile.ArrayType} {x : Int32} {L : mLs} {t : List Value} {sp sp1 : mSh} {σ : mHp} (hok : mOkP md) (hr : mIn md.2.2.2.2.2 pc = some (.newarray ty, np, a, b, cc, v, w)) (hx : x = nI N) (hN : N ≤ 1000000) (hi : sp.length = i) (hlt : i < 1000000) (hn : n0 ≤ i) (ht : t0 ≤ mTot sp) (hsp : sp ++ [(a, N, [])] = sp1) (k : mGo g l d md n0 t0 (np, L, .ref i :: t, sp1, mNew σ i) Post) : mGo g l d md n0 t0 (pc, L, .int x :: t, sp, σ) Post := by
  subst hx
  subst hi
  subst hsp
  obtain ⟨r, sp2, σ2, a1, a2, a3, a4⟩ := k
  have a1 : (sp ++ [(a, N, ([] : List (Option Nat)))]).length ≤ sp2.length := a1
  have a2 : mTot (sp ++ [(a, N, ([] : List (Option Nat)))]) ≤ mTot sp2 := a2
  rw [mTot_app] at a2
  simp at a1 a2
  refine ⟨r, sp2, σ2, by show sp.length ≤ _; omega, by show mTot sp ≤ _; omega, a3, fun p e R s m args below meth c hX b1 b2 b3 b4 => ?_⟩
  exact mNewa_ok hX hok hr hN (by omega) (by omega) hlt (a4 p e R s m args below meth c hX b1 b2 b3 b4)
theorem mGo_newq {pc np a b cc i j N : Nat} {v : Int32} {w : Int64} {x : Int32} {L : mLs} {t : List Value} {sp sp1 : mSh} {σ : mHp} (hok : mOkP md) (hr : mIn md.2.2.2.2.2 pc = some (.anewarray j, np, a, b, cc, v, w)) (hx : x = nI N) (hN : N ≤ 1000000) (hi : sp.length = i) (hlt : i < 1000000) (hn : n0 ≤ i) (ht : t0 ≤ mTot sp) (hsp : sp ++ [(103, N, List.replicate N none)] = sp1) (k : mGo g l d md n0 t0 (np, L, .ref i :: t, sp1, mNew σ i) Post) : mGo g l d md n0 t0 (pc, L, .int x :: t, sp, σ) Post := by
  subst hx
  subst hi
  subst hsp
  obtain ⟨r, sp2, σ2, a1, a2, a3, a4⟩ := k
  have a1 : (sp ++ [(103, N, List.replicate N (none : Option Nat))]).length ≤ sp2.length := a1
  have a2 : mTot (sp ++ [(103, N, List.replicate N (none : Option Nat))]) ≤ mTot sp2 := a2
  rw [mTot_app] at a2
  simp at a1 a2
  refine ⟨r, sp2, σ2, by show sp.length ≤ _; omega, by show mTot sp ≤ _; omega, a3, fun p e R s m args below meth c hX b1 b2 b3 b4 => ?_⟩
  exact mNewq_ok hX hok hr hN (by omega) (by omega) hlt (a4 p e R s m args below meth c hX b1 b2 b3 b4)
theorem mGo_newo {pc np a b cc i j : Nat} {v : Int32} {w : Int64} {L : mLs} {st : List Value} {sp sp1 : mSh} {σ : mHp} (hok : mOkP md) (hr : mIn md.2.2.2.2.2 pc = some (.new j, np, a, b, cc, v, w)) (hi : sp.length = i) (hlt : i < 1000000) (hn : n0 ≤ i) (ht : t0 ≤ mTot sp) (hsp : sp ++ [(a, b, List.replicate b none)] = sp1) (k : mGo g l d md n0 t0 (np, L, .ref i :: st, sp1, mNew σ i) Post) : mGo g l d md n0 t0 (pc, L, st, sp, σ) Post := by
  subst hi
  subst hsp
  obtain ⟨r, sp2, σ2, a1, a2, a3, a4⟩ := k
  have a1 : (sp ++ [(a, b, List.replicate b (none : Option Nat))]).length ≤ sp2.length := a1
  have a2 : mTot (sp ++ [(a, b, List.replicate b (none : Option Nat))]) ≤ mTot sp2 := a2
  rw [mTot_app] at a2
  simp at a1 a2
  refine ⟨r, sp2, σ2, by show sp.length ≤ _; omega, by show mTot sp ≤ _; omega, a3, fun p e R s m args below meth c hX b1 b2 b3 b4 => ?_⟩
  exact mNewo_ok hX hok hr (by omega) (by omega) hlt (a4 p e R s m args below meth c hX b1 b2 b3 b4)
theorem mGo_obj {pc np b cc i ix : Nat} {v : Int32} {w : Int64} {L : mLs} {sp : mSh} {σ : mHp} (hok : mOkP md) (hr : mIn md.2.2.2.2.2 pc = some (.invokespecial i, np, 1010, b, cc, v, w)) (hl0 : Cond.methodLink (mCn md.2.1) i Lib.objectInit ∈ mTB) (hd : 1 ≤ d) (k : mGo g l d md n0 t0 (np, L, [], sp, σ) Post) : mGo g l d md n0 t0 (pc, L, [.ref ix], sp, σ) Post := by
  obtain ⟨r, sp2, σ2, a1, a2, a3, a4⟩ := k
  exact ⟨r, sp2, σ2, a1, a2, a3, fun p e R s m args below meth c hX b1 b2 b3 b4 => mObj_ok hX hok hr hl0 (by omega) (by omega) (a4 p e R s m args below meth c hX b1 b2 b3 b4)⟩
theorem mGo_ast {pc np a b cc q j n n2 : Nat} {v i : Int32} {w : Int64} {r r2 : List (Option Nat)} {L : mLs} {t : List Value} {sp : mSh} {σ : mHp} {cf : mCf} (hok : mOkP md) (hr : mIn md.2.2.2.2.2 pc = some (.aastore, np, a, b, cc, v, w)) (hat : sp[q]? = some (103, n, r)) (hlt : q < 1000000) (hat2 : sp[j]? = some (5, n2, r2)) (hlt2 : j < 1000000) (hi : vp_in i n) (h : mSpS sp q i.toNatClampNeg (some j) (fun sp1 => some (np, L, t, sp1, σ)) = some cf) (k : mGo g l d md n0 t0 cf Post) : mGo g l d md n0 t0 (pc, L, .ref j :: .int i :: .ref q :: t, sp, σ) Post := by
  obtain ⟨r, sp2, σ2, a1, a2, a3, a4⟩ := k
  have e1 : cf.2.2.2.1.length = sp.length ∧ mTot cf.2.2.2.1 = mTot sp := by
    obtain ⟨sh, g1, g2, g3⟩ := mSpS_spec h
    cases g3
    obtain ⟨s1, s2, s3⟩ := sh
    exact ⟨by simp, mTot_set g1⟩
  rw [e1.1] at a1
  rw [e1.2] at a2
  exact ⟨r, sp2, σ2, a1, a2, a3, fun p e R s m args below meth c hX b1 b2 b3 b4 => mAst_ok hX hok hr hat hlt hat2 hlt2 hi h (a4 p e R s m args below meth c hX b1 b2 b3 b4)⟩
/-- an int array whose number is no literal -/
theorem mGo_ild {pc np a b cc q n : Nat} {v i : Int32} {w : Int64} {r : List (Option Nat)} {L : mLs} {t : List Value} {sp : mSh} {σ : mHp} (hok : mOkP md) (hr : mIn md.2.2.2.2.2 pc = some (.iaload, np, a, b, cc, v, w)) (hat : sp[q]? = some (100, n, r)) (hlt : q < 1000000) (hi : vp_in i n) (k : mGo g l d md n0 t0 (np, L, .int (σ.1 q i.toNatClampNeg) :: t, sp, σ) Post) : mGo g l d md n0 t0 (pc, L, .int i :: .ref q :: t, sp, σ) Post := by
  obtain ⟨hd0, -, hx0⟩ := mRow_ok hok.1 hr
  have e1 : np = pc + 1 := of_decide_eq_true hx0
  subst e1
  obtain ⟨r, sp2, σ2, a1, a2, a3, a4⟩ := k
  exact ⟨r, sp2, σ2, a1, a2, a3, fun p e R s m args below meth c hX b1 b2 b3 b4 => mIld_ok hX (mDec hd0 rfl) hat hlt hi (a4 p e R s m args below meth c hX b1 b2 b3 b4)⟩
theorem mGo_ist {pc np a b cc q n : Nat} {v i x : Int32} {w : Int64} {r : List (Option Nat)} {L : mLs} {t : List Value} {sp : mSh} {σ : mHp} (hok : mOkP md) (hr : mIn md.2.2.2.2.2 pc = some (.iastore, np, a, b, cc, v, w)) (hat : sp[q]? = some (100, n, r)) (hlt : q < 1000000) (hi : vp_in i n) (k : mGo g l d md n0 t0 (np, L, t, sp, mWI σ q i.toNatClampNeg x) Post) : mGo g l d md n0 t0 (pc, L, .int x :: .int i :: .ref q :: t, sp, σ) Post := by
  obtain ⟨hd0, -, hx0⟩ := mRow_ok hok.1 hr
  have e1 : np = pc + 1 := of_decide_eq_true hx0
  subst e1
  obtain ⟨r, sp2, σ2, a1, a2, a3, a4⟩ := k
  exact ⟨r, sp2, σ2, a1, a2, a3, fun p e R s m args below meth c hX b1 b2 b3 b4 => mIst_ok hX (mDec hd0 rfl) hat hlt hi (a4 p e R s m args below meth c hX b1 b2 b3 b4)⟩
theorem mGo_len {pc np a b cc q n : Nat} {v : Int32} {w : Int64} {r : List (Option Nat)} {L : mLs} {t : List Value} {sp : mSh} {σ : mHp} (hok : mOkP md) (hr : mIn md.2.2.2.2.2 pc = some (.arraylength, np, a, b, cc, v, w)) (hat : sp[q]? = some (100, n, r)) (hlt : q < 1000000) (k : mGo g l d md n0 t0 (np, L, .int (nI n) :: t, sp, σ) Post) : mGo g l d md n0 t0 (pc, L, .ref q :: t, sp, σ) Post := by
  obtain ⟨hd0, -, hx0⟩ := mRow_ok hok.1 hr
  have e1 : np = pc + 1 := of_decide_eq_true hx0
  subst e1
  obtain ⟨r, sp2, σ2, a1, a2, a3, a4⟩ := k
  exact ⟨r, sp2, σ2, a1, a2, a3, fun p e R s m args below meth c hX b1 b2 b3 b4 => mAlen_ok hX (mDec hd0 rfl) hat hlt ⟨by decide, by decide⟩ (a4 p e R s m args below meth c hX b1 b2 b3 b4)⟩
end MG
