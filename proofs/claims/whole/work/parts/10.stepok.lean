/-! the straight steps are the machine's -/
def mGoR (e : Nat × mRow) : Bool := match e.2.1 with
  | .goto _ => decide (e.2.2.1 = e.1 + 3)
  | _ => true
def mGoOk (m : mMd) : Bool := m.2.2.2.2.2.all (fun ch => ch.all mGoR)
def mOkP (m : mMd) : Prop := mMdOk m = true ∧ mGoOk m = true
set_option maxRecDepth 100000 in
theorem mGo_all : mdL.all mGoOk = true := by decide +kernel
set_option maxRecDepth 100000 in
theorem mOkP_law : mOkP md_law := ⟨mOk_law, by decide +kernel⟩
theorem mOkP_all {m : mMd} (h : m ∈ mdL) : mOkP m := ⟨mOk_all m h, List.all_eq_true.mp mGo_all m h⟩
theorem mGo_at {m : mMd} (hm : mGoOk m = true) {pc : Nat} {r : mRow} (h : mIn m.2.2.2.2.2 pc = some r) : mGoR (pc, r) = true := by
  obtain ⟨ch, h1, h2⟩ := mCh_mem (mLk_mem h)
  exact List.all_eq_true.mp (List.all_eq_true.mp hm ch h1) _ h2
theorem mFs_WI {h : Nat} {σ : mHp} {i a b n : Nat} {r : List (Option Nat)} {x : Int32} (h1 : mFt a b ≠ 1) (h2 : mFt a b ≠ 2) : mFs h (mWI σ i b x) i (a, n, r) = (mFs h σ i (a, n, r)).set b (.int x) := by
  apply List.ext_getElem?
  intro k
  by_cases hk : k < n
  · rw [mFs_at (sh := (a, n, r)) hk]
    by_cases hb : k = b
    · subst hb
      rw [List.getElem?_set_self (by simp [mFs, hk])]
      simp [mFv, mWI, h1, h2, upd]
    · rw [List.getElem?_set_ne (fun e => hb e.symm), mFs_at (sh := (a, n, r)) hk]
      simp [mFv, mWI, upd, hb]
  · rw [List.getElem?_eq_none (by simp [mFs]; omega), List.getElem?_eq_none (by simp [mFs]; omega)]
theorem mFs_WL {h : Nat} {σ : mHp} {i a b n : Nat} {r : List (Option Nat)} {x : Int64} (h1 : mFt a b = 1) : mFs h (mWL σ i b x) i (a, n, r) = (mFs h σ i (a, n, r)).set b (.long x) := by
  apply List.ext_getElem?
  intro k
  by_cases hk : k < n
  · rw [mFs_at (sh := (a, n, r)) hk]
    by_cases hb : k = b
    · subst hb
      rw [List.getElem?_set_self (by simp [mFs, hk])]
      simp [mFv, mWL, h1, vp_updL]
    · rw [List.getElem?_set_ne (fun e => hb e.symm), mFs_at (sh := (a, n, r)) hk]
      simp [mFv, mWL, vp_updL, hb]
  · rw [List.getElem?_eq_none (by simp [mFs]; omega), List.getElem?_eq_none (by simp [mFs]; omega)]
theorem mFs_R {h : Nat} {σ : mHp} {i a b n : Nat} {r : List (Option Nat)} {o : Option Nat} (h1 : mFt a b = 2) (hb : b < r.length) : mFs h σ i (a, n, r.set b o) = (mFs h σ i (a, n, r)).set b (va_rf (o.map (mAl h))) := by
  apply List.ext_getElem?
  intro k
  by_cases hk : k < n
  · rw [mFs_at (sh := (a, n, r.set b o)) hk]
    by_cases hkb : k = b
    · subst hkb
      rw [List.getElem?_set_self (by simp [mFs, hk])]
      simp [mFv, h1, List.getElem?_set_self hb]
    · rw [List.getElem?_set_ne (fun e => hkb e.symm), mFs_at (sh := (a, n, r)) hk]
      simp [mFv, List.getElem?_set_ne (fun e => hkb e.symm)]
  · rw [List.getElem?_eq_none (by simp [mFs]; omega), List.getElem?_eq_none (by simp [mFs]; omega)]
theorem mTot_set : ∀ {sp : mSh} {i c n : Nat} {r r' : List (Option Nat)}, sp[i]? = some (c, n, r) → mTot (sp.set i (c, n, r')) = mTot sp := by
  intro sp
  induction sp with
  | nil => intro i c n r r' h; simp at h
  | cons a t ih =>
    intro i c n r r' h
    cases i with
    | zero => simp at h; subst h; simp [mTot]
    | succ i => have := ih (r' := r') (by simpa using h); simp [mTot] at this ⊢; rw [this]
theorem mCell_obj {g : mG} {σ : mHp} {i a n : Nat} {r : List (Option Nat)} (ha : a < 10) : mCell g σ i (a, n, r) = .inr (a, mFs (mGh g) σ i (a, n, r)) := by
  unfold mCell
  rw [if_neg (by show ¬ a = 100; omega), if_neg (by show ¬ a = 101; omega), if_neg (by show ¬ a = 102; omega), if_neg (by show ¬ a = 103; omega)]
theorem mHas_at {sp : mSh} {i a b : Nat} (h : mHas sp i a b = true) : ∃ n r, sp[i]? = some (a, n, r) ∧ i < 1000000 ∧ b < n := by
  unfold mHas at h
  split at h
  · rename_i ci n r hsp
    obtain ⟨h1, h2⟩ := mSpA_at hsp
    simp only [Bool.and_eq_true] at h
    have e1 : ci = a := Nat.eq_of_beq_eq_true h.1
    subst e1
    exact ⟨n, r, h1, h2, by simpa [Nat.blt_eq] using h.2⟩
  · cases h
theorem mNar_i {t : FieldType} {x : Int32} (h : mTyC t = 0) : narrow t (.int x) = .int x ∧ fits t (.int x) = true := by
  cases t <;> simp [mTyC] at h
  exact ⟨rfl, rfl⟩
theorem mNar_l {t : FieldType} {x : Int64} (h : mTyC t = 1) : narrow t (.long x) = .long x ∧ fits t (.long x) = true := by
  cases t <;> simp [mTyC] at h
  exact ⟨rfl, rfl⟩
theorem mNar_r {t : FieldType} {x : Option Nat} (h : mTyC t = 2) : narrow t (va_rf x) = va_rf x ∧ fits t (va_rf x) = true := by
  cases t <;> simp [mTyC] at h <;> cases x <;> exact ⟨rfl, rfl⟩
theorem mNar_z {t : FieldType} {x : Int32} (h : mTyC t = 3) (hx : x = 0 ∨ x = 1) : narrow t (.int x) = .int x ∧ fits t (.int x) = true := by
  cases t <;> simp [mTyC] at h
  rcases hx with rfl | rfl <;> exact ⟨by decide, by decide⟩
section MS
variable {g : mG} {l : Launch} {md : mMd} {p : Program} {e : Env} {R : Room} {s : State} {m : MethodId} {args : Array Value} {below : List Frame} {meth : Method} {c : Code} {n0 t0 : Nat} {Q : State → Prop}
theorem mPut_ok {pc i a b cc ix n : Nat} {r : List (Option Nat)} {L : mLs} {t : List Value} {v : Value} {sp sp' : mSh} {σ σ' : mHp} (hX : mX g md p s m args meth c n0) (hfl : (md.2.1, i, a, b) ∈ mFL) (hbn : b < mNf a) (ha : a < 10) (hfin : (cc < 10 → (mFd a b).2.2.2 = false) ∧ (¬ cc < 10 → (mFd a b).2.2.2 = true ∧ (md.1.name == "<init>") = true ∧ (mFd a b).1 = mCn md.2.1)) (hd : decode md.2.2.1 pc = .ok (.putfield i, 3))
    (hat : sp[ix]? = some (a, n, r)) (hbl : b < n) (hv : narrow (mTy a b) v = v ∧ fits (mTy a b) v = true) (hw : (mWl g sp σ).set ix (mGh g + ix, .inr (a, (mFs (mGh g) σ ix (a, n, r)).set b v)) = mWl g sp' σ') (hlen : sp'.length = sp.length) (htot : mTot sp' = mTot sp)
    (k : mM g l md p e R s m args below meth c n0 t0 Q (pc + 3, L, t, sp', σ')) (hn : n0 ≤ sp.length) (ht : t0 ≤ mTot sp) {H : Heap} {locs : List Loc} {ls : Array Slot} (hP : mP g sp σ H) (hS : va_S (mA g) s.heap H locs) (hl : mLoc (mGh g) ls md.2.2.2.1 L) : W p l e R s m args below meth c H locs (sp.length - n0) (mTot sp - t0) Q (F0 m pc ls (v :: .ref (mGh g + ix) :: t.map (mE (mGh g)))) := by
  obtain ⟨q, hq, hqm, hqn, hqd⟩ := mCl_of ha
  have hat2 := mWl_at (g := g) (σ := σ) hat
  rw [mCell_obj ha] at hat2
  have hlink := hX.2.2.2.2.1 _ (mFL_of hfl)
  have kk : ∀ (H1 : Heap) (locs1 : List Loc), va_P (mGD g) vwCl ((mWl g sp σ).set ix (mGh g + ix, .inr (a, (mFs (mGh g) σ ix (a, n, r)).set b v))) H1 → va_D (mA g) ((mWl g sp σ).set ix (mGh g + ix, .inr (a, (mFs (mGh g) σ ix (a, n, r)).set b v))) → va_S (mA g) s.heap H1 locs1 → W p l e R s m args below meth c H1 locs1 (sp.length - n0) (mTot sp - t0) Q (F0 m (pc + 3) ls (t.map (mE (mGh g)))) := by
    intro H1 locs1 h1 _ h3
    rw [hw] at h1
    have K := k (by show n0 ≤ sp'.length; omega) (by show t0 ≤ mTot sp'; omega) H1 locs1 ls h1 h3 hl
    have K : W p l e R s m args below meth c H1 locs1 (sp'.length - n0) (mTot sp' - t0) Q (F0 m (pc + 3) ls (t.map (mE (mGh g)))) := K
    rw [hlen, htot] at K
    exact K
  by_cases hc : cc < 10
  · exact va_put (ref := (mFd a b).1) (C := q.1) (T := q.2.1) (N := q.2.2) hX.1 hX.2.1 hX.2.2.2.2.1 (mLay_tb q hqm) (mTy a) (mTy_ok hq) (mNm_ok hq) hX.2.2.2.1 hX.2.2.2.2.2.1.1 hP (mWl_D g sp σ) hS ix hat2 hq b (by rw [hqn]; exact hbn) (by rw [hqd]; exact hlink) (by rw [hqd]; exact fun _ h9 => h9) (by rw [hqd]; exact hfin.1 hc) (mTy_ok hq b (by rw [hqn]; exact hbn)) hv.1 hv.2 (by simp [mFs]; exact hbl) hd kk
  · obtain ⟨f1, f2, f3⟩ := hfin.2 hc
    exact va_putF (ref := (mFd a b).1) (C := q.1) (T := q.2.1) (N := q.2.2) hX.1 hX.2.1 hX.2.2.2.2.1 (mLay_tb q hqm) (mTy a) (mTy_ok hq) (mNm_ok hq) hX.2.2.2.1 hX.2.2.2.2.2.1.1 hP (mWl_D g sp σ) hS ix hat2 hq b (by rw [hqn]; exact hbn) (by rw [hqd]; exact hlink) (by rw [hqd]; exact fun _ h9 => h9) (by rw [hqd]; exact f1) (by rw [hX.2.2.2.2.2.2.2.2.2.2]; exact eq_of_beq f2) (by rw [hqd]; exact f3) (mTy_ok hq b (by rw [hqn]; exact hbn)) hv.1 hv.2 (by simp [mFs]; exact hbl) hd kk
theorem mTyC_at {a b : Nat} (ha : a < 10) (hb : b < mNf a) : mTyC (mTy a b) = mFt a b := mTyC_ok a ha b hb
theorem mPfI_ok {pc i a b cc ix : Nat} {L : mLs} {t : List Value} {x : Int32} {sp : mSh} {σ : mHp} (hX : mX g md p s m args meth c n0) (hfl : (md.2.1, i, a, b) ∈ mFL) (hbn : b < mNf a) (ha : a < 10) (hfin : (cc < 10 → (mFd a b).2.2.2 = false) ∧ (¬ cc < 10 → (mFd a b).2.2.2 = true ∧ (md.1.name == "<init>") = true ∧ (mFd a b).1 = mCn md.2.1)) (hd : decode md.2.2.1 pc = .ok (.putfield i, 3)) (hh : mHas sp ix a b = true) (hty : mFt a b = 0 ∨ (mFt a b = 3 ∧ (x = 0 ∨ x = 1))) (k : mM g l md p e R s m args below meth c n0 t0 Q (pc + 3, L, t, sp, mWI σ ix b x)) : mM g l md p e R s m args below meth c n0 t0 Q (pc, L, .int x :: .ref ix :: t, sp, σ) := by
  obtain ⟨n, r, h1, h2, h3⟩ := mHas_at hh
  intro hn ht H locs ls hP hS hl
  show W p l e R s m args below meth c H locs _ _ Q (F0 m pc ls (.int x :: .ref (mAl (mGh g) ix) :: t.map (mE (mGh g))))
  rw [mAl_lt h2]
  have ht1 : mFt a b ≠ 1 := by rcases hty with h | h <;> omega
  have ht2 : mFt a b ≠ 2 := by rcases hty with h | h <;> omega
  refine mPut_ok (cc := cc) hX hfl hbn ha hfin hd h1 h3 ?_ (mWl_set rfl h1 (by rw [mCell_obj ha, mFs_WI ht1 ht2]) (fun _ _ => rfl) (fun j sh hj => mCell_WI hj)) rfl rfl k hn ht hP hS hl
  rcases hty with h | h
  · exact mNar_i (by rw [mTyC_at ha hbn]; exact h)
  · exact mNar_z (by rw [mTyC_at ha hbn]; exact h.1) h.2
theorem mPfL_ok {pc i a b cc ix : Nat} {L : mLs} {t : List Value} {x : Int64} {sp : mSh} {σ : mHp} (hX : mX g md p s m args meth c n0) (hfl : (md.2.1, i, a, b) ∈ mFL) (hbn : b < mNf a) (ha : a < 10) (hfin : (cc < 10 → (mFd a b).2.2.2 = false) ∧ (¬ cc < 10 → (mFd a b).2.2.2 = true ∧ (md.1.name == "<init>") = true ∧ (mFd a b).1 = mCn md.2.1)) (hd : decode md.2.2.1 pc = .ok (.putfield i, 3)) (hh : mHas sp ix a b = true) (hty : mFt a b = 1) (k : mM g l md p e R s m args below meth c n0 t0 Q (pc + 3, L, t, sp, mWL σ ix b x)) : mM g l md p e R s m args below meth c n0 t0 Q (pc, L, .long x :: .ref ix :: t, sp, σ) := by
  obtain ⟨n, r, h1, h2, h3⟩ := mHas_at hh
  intro hn ht H locs ls hP hS hl
  show W p l e R s m args below meth c H locs _ _ Q (F0 m pc ls (.long x :: .ref (mAl (mGh g) ix) :: t.map (mE (mGh g))))
  rw [mAl_lt h2]
  exact mPut_ok (cc := cc) hX hfl hbn ha hfin hd h1 h3 (mNar_l (by rw [mTyC_at ha hbn]; exact hty)) (mWl_set rfl h1 (by rw [mCell_obj ha, mFs_WL hty]) (fun _ _ => rfl) (fun j sh hj => mCell_WL hj)) rfl rfl k hn ht hP hS hl
theorem mPfR_ok {pc i a b cc ix : Nat} {L : mLs} {t : List Value} {o : Option Nat} {sp : mSh} {σ : mHp} {cf : mCf} (hX : mX g md p s m args meth c n0) (hfl : (md.2.1, i, a, b) ∈ mFL) (hbn : b < mNf a) (ha : a < 10) (hfin : (cc < 10 → (mFd a b).2.2.2 = false) ∧ (¬ cc < 10 → (mFd a b).2.2.2 = true ∧ (md.1.name == "<init>") = true ∧ (mFd a b).1 = mCn md.2.1)) (hd : decode md.2.2.1 pc = .ok (.putfield i, 3)) (hh : mHas sp ix a b = true) (hty : mFt a b = 2) (h : mSpS sp ix b o (fun sp1 => some (pc + 3, L, t, sp1, σ)) = some cf) (k : mM g l md p e R s m args below meth c n0 t0 Q cf) : mM g l md p e R s m args below meth c n0 t0 Q (pc, L, mRv o :: .ref ix :: t, sp, σ) := by
  obtain ⟨n, r, h1, h2, h3⟩ := mHas_at hh
  obtain ⟨sh, g1, g2, g3⟩ := mSpS_spec h
  rw [h1] at g1
  cases g1
  cases g3
  intro hn ht H locs ls hP hS hl
  have e1 : mE (mGh g) (mRv o) = va_rf (o.map (mAl (mGh g))) := by cases o <;> rfl
  show W p l e R s m args below meth c H locs _ _ Q (F0 m pc ls (mE (mGh g) (mRv o) :: .ref (mAl (mGh g) ix) :: t.map (mE (mGh g))))
  rw [mAl_lt h2, e1]
  have hlt : ix < sp.length := (List.getElem?_eq_some_iff.mp h1).1
  exact mPut_ok (cc := cc) hX hfl hbn ha hfin hd h1 h3 (mNar_r (by rw [mTyC_at ha hbn]; exact hty)) (mWl_set (sh := (a, n, r.set b o)) (by simp) (by simp [hlt]) (by rw [mCell_obj ha, mFs_R hty g2]) (fun j hj => List.getElem?_set_ne (fun e => hj e.symm)) (fun j sh hj => rfl)) (by simp) (mTot_set h1) k hn ht hP hS hl
theorem mPf_ok {pc i a b cc : Nat} {L : mLs} {st : List Value} {sp : mSh} {σ : mHp} {cf : mCf} (hX : mX g md p s m args meth c n0) (hfl : (md.2.1, i, a, b) ∈ mFL) (hbn : b < mNf a) (ha : a < 10) (hc : (if cc < 10 then decide (cc = mFt a b ∧ (mFd a b).2.2.2 = false) else decide (cc = mFt a b + 10 ∧ (mFd a b).2.2.2 = true ∧ (md.1.name == "<init>") = true ∧ (mFd a b).1 = mCn md.2.1)) = true) (hd : decode md.2.2.1 pc = .ok (.putfield i, 3)) (h : mPf (pc + 3) a b cc L st sp σ = some cf) (k : mM g l md p e R s m args below meth c n0 t0 Q cf) : mM g l md p e R s m args below meth c n0 t0 Q (pc, L, st, sp, σ) := by
  have hfin : (cc < 10 → (mFd a b).2.2.2 = false) ∧ (¬ cc < 10 → (mFd a b).2.2.2 = true ∧ (md.1.name == "<init>") = true ∧ (mFd a b).1 = mCn md.2.1) := by
    by_cases h9 : cc < 10
    · rw [if_pos h9] at hc
      exact ⟨fun _ => (of_decide_eq_true hc).2, fun q => absurd h9 q⟩
    · rw [if_neg h9] at hc
      exact ⟨fun q => absurd q h9, fun _ => (of_decide_eq_true hc).2⟩
  have hft : (cc < 10 → cc = mFt a b) ∧ (¬ cc < 10 → cc = mFt a b + 10) := by
    by_cases h9 : cc < 10
    · rw [if_pos h9] at hc
      exact ⟨fun _ => (of_decide_eq_true hc).1, fun q => absurd h9 q⟩
    · rw [if_neg h9] at hc
      exact ⟨fun q => absurd q h9, fun _ => (of_decide_eq_true hc).1⟩
  unfold mPf at h
  split at h
  · split at h
    · rename_i x ix t
      cases hh : mHas sp ix a b with
      | false => rw [hh] at h; cases h
      | true => rw [hh] at h; cases h; exact mPfI_ok (cc := 0) hX hfl hbn ha hfin hd hh (Or.inl (hft.1 (by decide)).symm) k
    · cases h
  · split at h
    · rename_i x ix t
      cases hh : mHas sp ix a b with
      | false => rw [hh] at h; cases h
      | true => rw [hh] at h; cases h; exact mPfI_ok (cc := 10) hX hfl hbn ha hfin hd hh (Or.inl (by have := hft.2 (by decide); omega)) k
    · cases h
  · split at h
    · rename_i x ix t
      cases hh : mHas sp ix a b with
      | false => rw [hh] at h; cases h
      | true => rw [hh] at h; cases h; exact mPfL_ok (cc := 1) hX hfl hbn ha hfin hd hh (hft.1 (by decide)).symm k
    · cases h
  · split at h
    · rename_i j ix t
      cases hh : mHas sp ix a b with
      | false => rw [hh] at h; cases h
      | true => rw [hh] at h; exact mPfR_ok (cc := 2) (o := some j) hX hfl hbn ha hfin hd hh (hft.1 (by decide)).symm h k
    · rename_i ix t
      cases hh : mHas sp ix a b with
      | false => rw [hh] at h; cases h
      | true => rw [hh] at h; exact mPfR_ok (cc := 2) (o := none) hX hfl hbn ha hfin hd hh (hft.1 (by decide)).symm h k
    · cases h
  · split at h
    · rename_i j ix t
      cases hh : mHas sp ix a b with
      | false => rw [hh] at h; cases h
      | true => rw [hh] at h; exact mPfR_ok (cc := 12) (o := some j) hX hfl hbn ha hfin hd hh (by have := hft.2 (by decide); omega) h k
    · cases h
  · cases h
theorem mAlen_ok {pc ix kk n : Nat} {r : List (Option Nat)} {L : mLs} {t : List Value} {sp : mSh} {σ : mHp} (hX : mX g md p s m args meth c n0) (hd : decode md.2.2.1 pc = .ok (.arraylength, 1)) (hat : sp[ix]? = some (kk, n, r)) (hlt : ix < 1000000) (hk : 100 ≤ kk ∧ kk ≤ 103) (k : mM g l md p e R s m args below meth c n0 t0 Q (pc + 1, L, .int (nI n) :: t, sp, σ)) : mM g l md p e R s m args below meth c n0 t0 Q (pc, L, .ref ix :: t, sp, σ) := by
  intro hn ht H locs ls hP hS hl
  have K := k hn ht H locs ls hP hS hl
  show W p l e R s m args below meth c H locs _ _ Q (F0 m pc ls (.ref (mAl (mGh g) ix) :: t.map (mE (mGh g))))
  rw [mAl_lt hlt]
  have hat2 := mWl_at (g := g) (σ := σ) hat
  have hK := hX.2.2.2.2.2.1.1
  have hc : kk = 100 ∨ kk = 101 ∨ kk = 102 ∨ kk = 103 := by omega
  rcases hc with rfl | rfl | rfl | rfl
  · exact va_alen (x := (n, .inl (σ.1 ix))) hX.1 hX.2.1 hK hP ix 0 hat2 rfl rfl hd K
  · exact va_alen (x := (n, .inr (.inl (σ.2.1 ix)))) hX.1 hX.2.1 hK hP ix 1 hat2 rfl rfl hd K
  · exact va_alen (x := (n, .inr (.inr (.inr (.inl (σ.2.2 ix)))))) hX.1 hX.2.1 hK hP ix 2 hat2 rfl rfl hd K
  · exact va_alen (x := (n, .inr (.inr (.inr (.inr (fun j => (r.getD j none).map (mAl (mGh g)))))))) hX.1 hX.2.1 hK hP ix 3 hat2 rfl rfl hd K
set_option maxHeartbeats 4000000 in
theorem mEx_ok (hX : mX g md p s m args meth c n0) (hok : mOkP md) {pc : Nat} {r : mRow} {L : mLs} {st : List Value} {sp : mSh} {σ : mHp} {cf : mCf} (hr : mIn md.2.2.2.2.2 pc = some r) (h : mEx r L st sp σ = some cf) (k : mM g l md p e R s m args below meth c n0 t0 Q cf) : mM g l md p e R s m args below meth c n0 t0 Q (pc, L, st, sp, σ) := by
  obtain ⟨hd0, -, hx0⟩ := mRow_ok hok.1 hr
  obtain ⟨ins, np, a, b, cc, v, w⟩ := r
  have hx : mRx md.2.1 (md.1.name == "<init>") pc (ins, np, a, b, cc, v, w) = true := hx0
  have hd1 : decode md.2.2.1 pc = .ok (ins, np - pc) := hd0
  have hgo := mGo_at hok.2 hr
  clear hx0 hd0 hr
  cases ins with
  | iconst n =>
    obtain ⟨e1, e2⟩ : np = pc + 1 ∧ _ = v := of_decide_eq_true hx
    subst e1
    have hd := mDec hd1 rfl
    clear hd1 hx
    cases h
    intro hn ht H locs ls hP hS hl
    exact lv_iconst hX.1 hX.2.1 hd e2 (k hn ht H locs ls hP hS hl)
  | bipush n =>
    obtain ⟨e1, e2⟩ : np = pc + 2 ∧ _ = v := of_decide_eq_true hx
    subst e1
    have hd := mDec hd1 rfl
    clear hd1 hx
    cases h
    intro hn ht H locs ls hP hS hl
    exact lv_bipush hX.1 hX.2.1 hd e2 (k hn ht H locs ls hP hS hl)
  | sipush n =>
    obtain ⟨e1, e2⟩ : np = pc + 3 ∧ _ = v := of_decide_eq_true hx
    subst e1
    have hd := mDec hd1 rfl
    clear hd1 hx
    cases h
    intro hn ht H locs ls hP hS hl
    exact lv_sipush hX.1 hX.2.1 hd e2 (k hn ht H locs ls hP hS hl)
  | ldc i =>
    simp only [mRx, Bool.and_eq_true, decide_eq_true_eq] at hx
    obtain ⟨e1, e2⟩ := hx
    subst e1
    have hd := mDec hd1 rfl
    clear hd1
    simp only [mEx] at h
    split at h
    · cases h
      rw [if_pos rfl] at e2
      have e3 := hX.2.2.2.2.1 _ (mIL_in _ (of_decide_eq_true e2))
      intro hn ht H locs ls hP hS hl
      exact lv_ldc hX.1 hX.2.1 hX.2.2.2.1 e3 hd (k hn ht H locs ls hP hS hl)
    · cases h
  | ldc2_w i =>
    obtain ⟨e1, e2⟩ : np = pc + 3 ∧ (md.2.1, i, w) ∈ mLL := by simpa [mRx] using hx
    subst e1
    have hd := mDec hd1 rfl
    clear hd1 hx
    cases h
    have e3 := hX.2.2.2.2.1 _ (mLL_in _ e2)
    intro hn ht H locs ls hP hS hl
    exact lv_ldc2 hX.1 hX.2.1 hX.2.2.2.1 e3 hd (k hn ht H locs ls hP hS hl)
  | lconst n =>
    have e1 : np = pc + 1 := of_decide_eq_true hx
    subst e1
    have hd := mDec hd1 rfl
    clear hd1 hx
    simp only [mEx] at h
    split at h
    · cases h
      intro hn ht H locs ls hP hS hl
      exact lv_lconst hX.1 hX.2.1 hd rfl (k hn ht H locs ls hP hS hl)
    · rename_i n1 n2 h0
      have e9 : n1 = 1 := by
        have h5 : n1 ≠ 0 := fun z => by subst z; first | exact h0 rfl | exact h0 rfl HEq.rfl | exact h0 n2 | simp at h0
        omega
      subst e9
      cases h
      intro hn ht H locs ls hP hS hl
      exact lv_lconst hX.1 hX.2.1 hd rfl (k hn ht H locs ls hP hS hl)
  | dconst n =>
    have e1 : np = pc + 1 := of_decide_eq_true hx
    subst e1
    have hd := mDec hd1 rfl
    clear hd1 hx
    simp only [mEx] at h
    split at h
    · cases h
      intro hn ht H locs ls hP hS hl
      exact lv_dconst0 hX.1 hX.2.1 hd (k hn ht H locs ls hP hS hl)
    · cases h
  | aconst_null =>
    have e1 : np = pc + 1 := of_decide_eq_true hx
    subst e1
    have hd := mDec hd1 rfl
    clear hd1 hx
    cases h
    intro hn ht H locs ls hP hS hl
    exact lv_null hX.1 hX.2.1 hd (k hn ht H locs ls hP hS hl)
  | iload i =>
    have e1 : np = pc + 2 := of_decide_eq_true hx
    subst e1
    have hd := mDec hd1 rfl
    clear hd1 hx
    exact mLdI_ok h (fun h1 h2 => lv_iload hX.1 hX.2.1 hd h1 h2) k
  | iload_n i =>
    have e1 : np = pc + 1 := of_decide_eq_true hx
    subst e1
    have hd := mDec hd1 rfl
    clear hd1 hx
    exact mLdI_ok h (fun h1 h2 => lv_iload_n hX.1 hX.2.1 hd rfl h1 h2) k
  | lload i =>
    have e1 : np = pc + 2 := of_decide_eq_true hx
    subst e1
    have hd := mDec hd1 rfl
    clear hd1 hx
    exact mLdL_ok h (fun h1 h2 => lv_lload hX.1 hX.2.1 hd h1 h2) k
  | lload_n i =>
    have e1 : np = pc + 1 := of_decide_eq_true hx
    subst e1
    have hd := mDec hd1 rfl
    clear hd1 hx
    exact mLdL_ok h (fun h1 h2 => lv_lload_n hX.1 hX.2.1 hd rfl h1 h2) k
  | fload i =>
    have e1 : np = pc + 2 := of_decide_eq_true hx
    subst e1
    have hd := mDec hd1 rfl
    clear hd1 hx
    exact mLdF_ok h (fun h1 h2 => lv_fload hX.1 hX.2.1 hd h1 h2) k
  | dload i =>
    have e1 : np = pc + 2 := of_decide_eq_true hx
    subst e1
    have hd := mDec hd1 rfl
    clear hd1 hx
    exact mLdD_ok h (fun h1 h2 => lv_dload hX.1 hX.2.1 hd h1 h2) k
  | dload_n i =>
    have e1 : np = pc + 1 := of_decide_eq_true hx
    subst e1
    have hd := mDec hd1 rfl
    clear hd1 hx
    exact mLdD_ok h (fun h1 h2 => lv_dload_n hX.1 hX.2.1 hd rfl h1 h2) k
  | aload i =>
    have e1 : np = pc + 2 := of_decide_eq_true hx
    subst e1
    have hd := mDec hd1 rfl
    clear hd1 hx
    exact mLdA_ok h (fun h1 h2 => lv_aload hX.1 hX.2.1 hd h1 h2) (fun h1 h2 => lv_aloadN hX.1 hX.2.1 hd h1 h2) k
  | aload_n i =>
    have e1 : np = pc + 1 := of_decide_eq_true hx
    subst e1
    have hd := mDec hd1 rfl
    clear hd1 hx
    exact mLdA_ok h (fun h1 h2 => lv_aload_n hX.1 hX.2.1 hd rfl h1 h2) (fun h1 h2 => lv_aload_nN hX.1 hX.2.1 hd rfl h1 h2) k
  | istore i =>
    have e1 : np = pc + 2 := of_decide_eq_true hx
    subst e1
    have hd := mDec hd1 rfl
    clear hd1 hx
    exact mStI_ok h (fun h1 h2 h3 => lv_istore hX.1 hX.2.1 hd h1 h2 rfl h3) k
  | istore_n i =>
    have e1 : np = pc + 1 := of_decide_eq_true hx
    subst e1
    have hd := mDec hd1 rfl
    clear hd1 hx
    exact mStI_ok h (fun h1 h2 h3 => lv_istore_n hX.1 hX.2.1 hd rfl h1 h2 rfl h3) k
  | lstore i =>
    have e1 : np = pc + 2 := of_decide_eq_true hx
    subst e1
    have hd := mDec hd1 rfl
    clear hd1 hx
    exact mStL2_ok h (fun h1 h2 h3 => lv_lstore hX.1 hX.2.1 hd h1 h2 rfl h3) k
  | lstore_n i =>
    have e1 : np = pc + 1 := of_decide_eq_true hx
    subst e1
    have hd := mDec hd1 rfl
    clear hd1 hx
    exact mStL2_ok h (fun h1 h2 h3 => lv_lstore_n hX.1 hX.2.1 hd rfl h1 h2 rfl h3) k
  | fstore i =>
    have e1 : np = pc + 2 := of_decide_eq_true hx
    subst e1
    have hd := mDec hd1 rfl
    clear hd1 hx
    exact mStF_ok h (fun h1 h2 h3 => lv_fstore hX.1 hX.2.1 hd h1 h2 rfl h3) k
  | dstore i =>
    have e1 : np = pc + 2 := of_decide_eq_true hx
    subst e1
    have hd := mDec hd1 rfl
    clear hd1 hx
    exact mStD_ok h (fun h1 h2 h3 => lv_dstore hX.1 hX.2.1 hd h1 h2 rfl h3) k
  | dstore_n i =>
    have e1 : np = pc + 1 := of_decide_eq_true hx
    subst e1
    have hd := mDec hd1 rfl
    clear hd1 hx
    exact mStD_ok h (fun h1 h2 h3 => lv_dstore_n hX.1 hX.2.1 hd rfl h1 h2 rfl h3) k
  | astore i =>
    have e1 : np = pc + 2 := of_decide_eq_true hx
    subst e1
    have hd := mDec hd1 rfl
    clear hd1 hx
    exact mStA_ok h (fun h1 h2 h3 => lv_astore hX.1 hX.2.1 hd h1 h2 rfl h3) (fun h1 h2 h3 => lv_astoreN hX.1 hX.2.1 hd h1 h2 rfl h3) k
  | astore_n i =>
    have e1 : np = pc + 1 := of_decide_eq_true hx
    subst e1
    have hd := mDec hd1 rfl
    clear hd1 hx
    exact mStA_ok h (fun h1 h2 h3 => lv_astore_n hX.1 hX.2.1 hd rfl h1 h2 rfl h3) (fun h1 h2 h3 => lv_astore_nN hX.1 hX.2.1 hd rfl h1 h2 rfl h3) k
  | iinc i n =>
    obtain ⟨e1, e2⟩ : np = pc + 3 ∧ Int32.ofInt n = v := of_decide_eq_true hx
    subst e1
    have hd := mDec hd1 rfl
    clear hd1 hx
    simp only [mEx] at h
    split at h
    · rename_i x hx1
      obtain ⟨L1, h1, h2, h3, h4⟩ := mSet_spec h
      cases h1
      intro hn ht H locs ls hP hS hl
      obtain ⟨k0, hk0⟩ := List.getElem?_of_mem (mLp_mem.mpr ⟨i, .int x, rfl, mGet_at hx1⟩ : (0 + i, mE (mGh g) (.int x)) ∈ mLp (mGh g) 0 L)
      rw [Nat.zero_add] at hk0
      exact lv_iinc (v := x + v) hX.1 hX.2.1 hd hl.2 hk0 (by rw [e2]) (by rw [← hl.1]; exact h3) rfl (fun ls' hl' => k hn ht H locs ls' hP hS (mLoc.set1 (ls := ls) (h2.trans hl.1) hl' h4))
    · cases h
  | dcmp op =>
    have e1 : np = pc + 1 := of_decide_eq_true hx
    subst e1
    have hd := mDec hd1 rfl
    clear hd1 hx
    simp only [mEx] at h
    split at h
    · cases h
      intro hn ht H locs ls hP hS hl
      exact lv_dcmp hX.1 hX.2.1 hd (k hn ht H locs ls hP hS hl)
    · cases h
  | dup =>
    have e1 : np = pc + 1 := of_decide_eq_true hx
    subst e1
    have hd := mDec hd1 rfl
    clear hd1 hx
    simp only [mEx] at h
    split at h
    · split at h
      · rename_i hc
        cases h
        intro hn ht H locs ls hP hS hl
        exact lv_dup hX.1 hX.2.1 hd (by rw [mE_cat]; exact hc) (k hn ht H locs ls hP hS hl)
      · cases h
    · cases h
  | dup2 =>
    have e1 : np = pc + 1 := of_decide_eq_true hx
    subst e1
    have hd := mDec hd1 rfl
    clear hd1 hx
    simp only [mEx] at h
    split at h
    · split at h
      · rename_i hc1 hc2
        cases h
        intro hn ht H locs ls hP hS hl
        exact lv_dup2_11 hX.1 hX.2.1 hd (by rw [mE_cat]; exact hc1) (by rw [mE_cat]; exact hc2) (k hn ht H locs ls hP hS hl)
      · cases h
    · cases h
  | pop =>
    have e1 : np = pc + 1 := of_decide_eq_true hx
    subst e1
    have hd := mDec hd1 rfl
    clear hd1 hx
    simp only [mEx] at h
    split at h
    · split at h
      · rename_i hc
        cases h
        intro hn ht H locs ls hP hS hl
        exact lv_pop hX.1 hX.2.1 hd (by rw [mE_cat]; exact hc) (k hn ht H locs ls hP hS hl)
      · cases h
    · cases h
  | goto f =>
    have e1 : (pc : Int) + f = (a : Int) := by simpa [mRx, mBr] using hx
    have hd : decode md.2.2.1 pc = .ok (.goto f, 3) := mDec hd1 (of_decide_eq_true hgo)
    cases h
    intro hn ht H locs ls hP hS hl
    exact lv_goto hX.1 hX.2.1 hd e1 (k hn ht H locs ls hP hS hl)
  | ifnull f =>
    obtain ⟨e1, e2⟩ : np = pc + 3 ∧ (pc : Int) + f = (a : Int) := by simpa [mRx, mBr] using hx
    subst e1
    have hd := mDec hd1 rfl
    clear hd1 hx
    simp only [mEx] at h
    split at h
    · cases h
      intro hn ht H locs ls hP hS hl
      exact lv_ifnull hX.1 hX.2.1 hd (k hn ht H locs ls hP hS hl)
    · cases h
      intro hn ht H locs ls hP hS hl
      exact lv_ifnullN hX.1 hX.2.1 hd e2 (k hn ht H locs ls hP hS hl)
    · cases h
  | ifnonnull f =>
    obtain ⟨e1, e2⟩ : np = pc + 3 ∧ (pc : Int) + f = (a : Int) := by simpa [mRx, mBr] using hx
    subst e1
    have hd := mDec hd1 rfl
    clear hd1 hx
    simp only [mEx] at h
    split at h
    · cases h
      intro hn ht H locs ls hP hS hl
      exact lv_ifnonnull hX.1 hX.2.1 hd e2 (k hn ht H locs ls hP hS hl)
    · cases h
      intro hn ht H locs ls hP hS hl
      exact lv_ifnonnullN hX.1 hX.2.1 hd (k hn ht H locs ls hP hS hl)
    · cases h
  | getfield i =>
    obtain ⟨e1, e2⟩ : np = pc + 3 ∧ (md.2.1, i, a, b) ∈ mFL ∧ b < mNf a ∧ a < 10 ∧ cc = mFt a b := by simpa [mRx] using hx
    subst e1
    exact mGf_ok hX e2 (mDec hd1 rfl) h k
  | putfield i =>
    simp only [mRx, Bool.and_eq_true, decide_eq_true_eq] at hx
    obtain ⟨⟨e1, e2, e3, e4⟩, e5⟩ := hx
    subst e1
    exact mPf_ok hX e2 e3 e4 e5 (mDec hd1 rfl) h k
  | arraylength =>
    have e1 : np = pc + 1 := of_decide_eq_true hx
    subst e1
    have hd := mDec hd1 rfl
    clear hd1 hx
    simp only [mEx] at h
    split at h
    · split at h
      · rename_i kk n r hsp
        obtain ⟨h1, h2⟩ := mSpA_at hsp
        cases hb : (Nat.ble 100 kk && Nat.ble kk 103) with
        | false => rw [hb] at h; cases h
        | true =>
          rw [hb] at h
          simp only [Bool.and_eq_true] at hb
          cases h
          exact mAlen_ok hX hd h1 h2 ⟨Nat.le_of_ble_eq_true hb.1, Nat.le_of_ble_eq_true hb.2⟩ k
      · cases h
    · cases h
  | iadd =>
    have e1 : np = pc + 1 := of_decide_eq_true hx
    subst e1
    have hd := mDec hd1 rfl
    clear hd1 hx
    simp only [mEx] at h
    split at h
    · cases h
      intro hn ht H locs ls hP hS hl
      have K := k hn ht H locs ls hP hS hl
      exact lv_iadd hX.1 hX.2.1 hd K
    · cases h
  | isub =>
    have e1 : np = pc + 1 := of_decide_eq_true hx
    subst e1
    have hd := mDec hd1 rfl
    clear hd1 hx
    simp only [mEx] at h
    split at h
    · cases h
      intro hn ht H locs ls hP hS hl
      have K := k hn ht H locs ls hP hS hl
      exact lv_isub hX.1 hX.2.1 hd K
    · cases h
  | imul =>
    have e1 : np = pc + 1 := of_decide_eq_true hx
    subst e1
    have hd := mDec hd1 rfl
    clear hd1 hx
    simp only [mEx] at h
    split at h
    · cases h
      intro hn ht H locs ls hP hS hl
      have K := k hn ht H locs ls hP hS hl
      exact lv_imul hX.1 hX.2.1 hd K
    · cases h
  | iand =>
    have e1 : np = pc + 1 := of_decide_eq_true hx
    subst e1
    have hd := mDec hd1 rfl
    clear hd1 hx
    simp only [mEx] at h
    split at h
    · cases h
      intro hn ht H locs ls hP hS hl
      have K := k hn ht H locs ls hP hS hl
      exact lv_iand hX.1 hX.2.1 hd K
    · cases h
  | ior =>
    have e1 : np = pc + 1 := of_decide_eq_true hx
    subst e1
    have hd := mDec hd1 rfl
    clear hd1 hx
    simp only [mEx] at h
    split at h
    · cases h
      intro hn ht H locs ls hP hS hl
      have K := k hn ht H locs ls hP hS hl
      exact lv_ior hX.1 hX.2.1 hd K
    · cases h
  | ixor =>
    have e1 : np = pc + 1 := of_decide_eq_true hx
    subst e1
    have hd := mDec hd1 rfl
    clear hd1 hx
    simp only [mEx] at h
    split at h
    · cases h
      intro hn ht H locs ls hP hS hl
      have K := k hn ht H locs ls hP hS hl
      exact lv_ixor hX.1 hX.2.1 hd K
    · cases h
  | ishl =>
    have e1 : np = pc + 1 := of_decide_eq_true hx
    subst e1
    have hd := mDec hd1 rfl
    clear hd1 hx
    simp only [mEx] at h
    split at h
    · cases h
      intro hn ht H locs ls hP hS hl
      have K := k hn ht H locs ls hP hS hl
      exact lv_ishl hX.1 hX.2.1 hd K
    · cases h
  | ishr =>
    have e1 : np = pc + 1 := of_decide_eq_true hx
    subst e1
    have hd := mDec hd1 rfl
    clear hd1 hx
    simp only [mEx] at h
    split at h
    · cases h
      intro hn ht H locs ls hP hS hl
      have K := k hn ht H locs ls hP hS hl
      exact lv_ishr hX.1 hX.2.1 hd K
    · cases h
  | ladd =>
    have e1 : np = pc + 1 := of_decide_eq_true hx
    subst e1
    have hd := mDec hd1 rfl
    clear hd1 hx
    simp only [mEx] at h
    split at h
    · cases h
      intro hn ht H locs ls hP hS hl
      have K := k hn ht H locs ls hP hS hl
      exact lv_ladd hX.1 hX.2.1 hd K
    · cases h
  | lmul =>
    have e1 : np = pc + 1 := of_decide_eq_true hx
    subst e1
    have hd := mDec hd1 rfl
    clear hd1 hx
    simp only [mEx] at h
    split at h
    · cases h
      intro hn ht H locs ls hP hS hl
      have K := k hn ht H locs ls hP hS hl
      exact lv_lmul hX.1 hX.2.1 hd K
    · cases h
  | land =>
    have e1 : np = pc + 1 := of_decide_eq_true hx
    subst e1
    have hd := mDec hd1 rfl
    clear hd1 hx
    simp only [mEx] at h
    split at h
    · cases h
      intro hn ht H locs ls hP hS hl
      have K := k hn ht H locs ls hP hS hl
      exact lv_land hX.1 hX.2.1 hd K
    · cases h
  | lor =>
    have e1 : np = pc + 1 := of_decide_eq_true hx
    subst e1
    have hd := mDec hd1 rfl
    clear hd1 hx
    simp only [mEx] at h
    split at h
    · cases h
      intro hn ht H locs ls hP hS hl
      have K := k hn ht H locs ls hP hS hl
      exact lv_lor hX.1 hX.2.1 hd K
    · cases h
  | lshl =>
    have e1 : np = pc + 1 := of_decide_eq_true hx
    subst e1
    have hd := mDec hd1 rfl
    clear hd1 hx
    simp only [mEx] at h
    split at h
    · cases h
      intro hn ht H locs ls hP hS hl
      have K := k hn ht H locs ls hP hS hl
      exact lv_lshl hX.1 hX.2.1 hd rfl K
    · cases h
  | lshr =>
    have e1 : np = pc + 1 := of_decide_eq_true hx
    subst e1
    have hd := mDec hd1 rfl
    clear hd1 hx
    simp only [mEx] at h
    split at h
    · cases h
      intro hn ht H locs ls hP hS hl
      have K := k hn ht H locs ls hP hS hl
      exact lv_lshr hX.1 hX.2.1 hd rfl K
    · cases h
  | lushr =>
    have e1 : np = pc + 1 := of_decide_eq_true hx
    subst e1
    have hd := mDec hd1 rfl
    clear hd1 hx
    simp only [mEx] at h
    split at h
    · cases h
      intro hn ht H locs ls hP hS hl
      have K := k hn ht H locs ls hP hS hl
      exact lv_lushr hX.1 hX.2.1 hd rfl K
    · cases h
  | lcmp =>
    have e1 : np = pc + 1 := of_decide_eq_true hx
    subst e1
    have hd := mDec hd1 rfl
    clear hd1 hx
    simp only [mEx] at h
    split at h
    · cases h
      intro hn ht H locs ls hP hS hl
      have K := k hn ht H locs ls hP hS hl
      exact W.lcmp hX.1 hX.2.1 hd K
    · cases h
  | i2l =>
    have e1 : np = pc + 1 := of_decide_eq_true hx
    subst e1
    have hd := mDec hd1 rfl
    clear hd1 hx
    simp only [mEx] at h
    split at h
    · cases h
      intro hn ht H locs ls hP hS hl
      have K := k hn ht H locs ls hP hS hl
      exact lv_i2l hX.1 hX.2.1 hd rfl K
    · cases h
  | l2i =>
    have e1 : np = pc + 1 := of_decide_eq_true hx
    subst e1
    have hd := mDec hd1 rfl
    clear hd1 hx
    simp only [mEx] at h
    split at h
    · cases h
      intro hn ht H locs ls hP hS hl
      have K := k hn ht H locs ls hP hS hl
      exact lv_l2i hX.1 hX.2.1 hd rfl K
    · cases h
  | i2b =>
    have e1 : np = pc + 1 := of_decide_eq_true hx
    subst e1
    have hd := mDec hd1 rfl
    clear hd1 hx
    simp only [mEx] at h
    split at h
    · cases h
      intro hn ht H locs ls hP hS hl
      have K := k hn ht H locs ls hP hS hl
      exact lv_i2b hX.1 hX.2.1 hd rfl K
    · cases h
  | i2c =>
    have e1 : np = pc + 1 := of_decide_eq_true hx
    subst e1
    have hd := mDec hd1 rfl
    clear hd1 hx
    simp only [mEx] at h
    split at h
    · cases h
      intro hn ht H locs ls hP hS hl
      have K := k hn ht H locs ls hP hS hl
      exact lv_i2c hX.1 hX.2.1 hd rfl K
    · cases h
  | i2d =>
    have e1 : np = pc + 1 := of_decide_eq_true hx
    subst e1
    have hd := mDec hd1 rfl
    clear hd1 hx
    simp only [mEx] at h
    split at h
    · cases h
      intro hn ht H locs ls hP hS hl
      have K := k hn ht H locs ls hP hS hl
      exact lv_i2d hX.1 hX.2.1 hd K
    · cases h
  | i2f =>
    have e1 : np = pc + 1 := of_decide_eq_true hx
    subst e1
    have hd := mDec hd1 rfl
    clear hd1 hx
    simp only [mEx] at h
    split at h
    · cases h
      intro hn ht H locs ls hP hS hl
      have K := k hn ht H locs ls hP hS hl
      exact lv_i2f hX.1 hX.2.1 hd K
    · cases h
  | l2d =>
    have e1 : np = pc + 1 := of_decide_eq_true hx
    subst e1
    have hd := mDec hd1 rfl
    clear hd1 hx
    simp only [mEx] at h
    split at h
    · cases h
      intro hn ht H locs ls hP hS hl
      have K := k hn ht H locs ls hP hS hl
      exact lv_l2d hX.1 hX.2.1 hd K
    · cases h
  | l2f =>
    have e1 : np = pc + 1 := of_decide_eq_true hx
    subst e1
    have hd := mDec hd1 rfl
    clear hd1 hx
    simp only [mEx] at h
    split at h
    · cases h
      intro hn ht H locs ls hP hS hl
      have K := k hn ht H locs ls hP hS hl
      exact lv_l2f hX.1 hX.2.1 hd K
    · cases h
  | d2l =>
    have e1 : np = pc + 1 := of_decide_eq_true hx
    subst e1
    have hd := mDec hd1 rfl
    clear hd1 hx
    simp only [mEx] at h
    split at h
    · cases h
      intro hn ht H locs ls hP hS hl
      have K := k hn ht H locs ls hP hS hl
      exact lv_d2l hX.1 hX.2.1 hd K
    · cases h
  | f2l =>
    have e1 : np = pc + 1 := of_decide_eq_true hx
    subst e1
    have hd := mDec hd1 rfl
    clear hd1 hx
    simp only [mEx] at h
    split at h
    · cases h
      intro hn ht H locs ls hP hS hl
      have K := k hn ht H locs ls hP hS hl
      exact lv_f2l hX.1 hX.2.1 hd K
    · cases h
  | dneg =>
    have e1 : np = pc + 1 := of_decide_eq_true hx
    subst e1
    have hd := mDec hd1 rfl
    clear hd1 hx
    simp only [mEx] at h
    split at h
    · cases h
      intro hn ht H locs ls hP hS hl
      have K := k hn ht H locs ls hP hS hl
      exact lv_dneg hX.1 hX.2.1 hd K
    · cases h
  | _ => simp [mEx] at h
end MS
