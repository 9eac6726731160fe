/-! walks that may draw: over the start with any record of draws; the reference's compute -/
section J
variable {g : mG} {l : Launch} {md : mMd} {p : Program} {e : Env} {R : Room} {s : State} {m : MethodId} {args : Array Value} {below : List Frame} {meth : Method} {c : Code} {n0 t0 : Nat} {Q : State → Prop}
def mJ (g : mG) (l : Launch) (md : mMd) (p : Program) (e : Env) (R : Room) (s : State) (m : MethodId) (args : Array Value) (below : List Frame) (meth : Method) (c : Code) (n0 t0 : Nat) (Q : State → Prop) (cf : mCf) : Prop :=
  ∀ dr : Drawn, s.drawn.sameBut dr lw_cs → mM g l md p e R (s.setDrawn dr) m args below meth c n0 t0 Q cf
theorem mX_dr (h : mX g md p s m args meth c n0) (dr : Drawn) : mX g md p (s.setDrawn dr) m args meth c n0 := by
  obtain ⟨a1, a2, a3, a4, a5, a6, a7, a8, a9, a10, a11⟩ := h
  exact ⟨a1, a2, a3, a4, dr_words a5 dr, mK.same rfl a6, a7, a8, a9, a10, a11⟩
theorem mJ_run (hX : mX g md p s m args meth c n0) {n : Nat} : ∀ {cf cf1 : mCf}, mOkP md → mRun md n cf = some cf1 → mJ g l md p e R s m args below meth c n0 t0 Q cf1 → mJ g l md p e R s m args below meth c n0 t0 Q cf := by
  induction n with
  | zero => intro cf cf1 _ h k; cases h; exact k
  | succ n ih =>
    intro cf cf1 hok h k
    obtain ⟨pc, L, st, sp, σ⟩ := cf
    simp only [mRun] at h
    split at h
    · cases h; exact k
    · rename_i r hr
      split at h
      · cases h; exact k
      · rename_i cf2 hx
        have k1 := ih hok h k
        exact fun dr hd => mEx_ok (mX_dr hX dr) hok hr hx (k1 dr hd)
theorem mJ_side (hX : mX g md p s m args meth c n0) {cf cf1 : mCf} {C : Prop} (hok : mOkP md) (h : mSdF g md cf = some (C, cf1)) (hC : C) (k : mJ g l md p e R s m args below meth c n0 t0 Q cf1) : mJ g l md p e R s m args below meth c n0 t0 Q cf := by
  obtain ⟨pc, L, st, sp, σ⟩ := cf
  unfold mSdF at h
  simp only at h
  split at h
  · cases h
  · rename_i r hr
    exact fun dr hd => mSd_ok (mX_dr hX dr) hok hr h hC (k dr hd)
theorem mJ_if (hX : mX g md p s m args meth c n0) {cf c1 c2 : mCf} {C : Prop} (hok : mOkP md) (h : mBnF md cf = some (C, c1, c2)) (k1 : C → mJ g l md p e R s m args below meth c n0 t0 Q c1) (k2 : ¬ C → mJ g l md p e R s m args below meth c n0 t0 Q c2) : mJ g l md p e R s m args below meth c n0 t0 Q cf := by
  obtain ⟨pc, L, st, sp, σ⟩ := cf
  unfold mBnF at h
  simp only at h
  split at h
  · cases h
  · rename_i r hr
    exact fun dr hd => mBn_ok (mX_dr hX dr) hok hr h (fun q => k1 q dr hd) (fun q => k2 q dr hd)
theorem mJ_sw (hX : mX g md p s m args meth c n0) {pc : Nat} {L : mLs} {st t : List Value} {sp : mSh} {σ : mHp} {x : Int32} {ks : List (Int32 × Nat)} {df : Nat} (hok : mOkP md) (h : mSwF md (pc, L, st, sp, σ) = some (x, ks, df, t)) (k : mSwG (fun q => mJ g l md p e R s m args below meth c n0 t0 Q (q, L, t, sp, σ)) x ks df) : mJ g l md p e R s m args below meth c n0 t0 Q (pc, L, st, sp, σ) := by
  unfold mSwF at h
  simp only at h
  split at h
  · cases h
  · rename_i r hr
    have k := mSwG_at k
    exact fun dr hd => mSw_okT (mX_dr hX dr) hok hr h (k dr hd)
theorem mJ_call (hX : mX g md p s m args meth c n0) {pc np a d1 : Nat} {L : mLs} {st as t : List Value} {sp : mSh} {σ : mHp} {Pc : Option Value → mSh → mHp → Prop} (hok : mOkP md) (h : mClF md (pc, L, st, sp, σ) = some (a, as, np, t)) (hd : d1 + 1 ≤ R.frames) (hd2 : 41 * (d1 + 1) ≤ R.locals) (hc : mC g l d1 a as sp σ Pc) (k : ∀ (r : Option Value) (sp1 : mSh) (σ1 : mHp), Pc r sp1 σ1 → (sp1.length - n0 ≤ R.cells ∧ mTot sp1 - t0 ≤ R.slots) ∧ mJ g l md p e R s m args below meth c n0 t0 Q (np, L, mPu r t, sp1, σ1)) : mJ g l md p e R s m args below meth c n0 t0 Q (pc, L, st, sp, σ) := by
  unfold mClF at h
  simp only at h
  split at h
  · cases h
  · rename_i row hr
    obtain ⟨ins, np1, a0, b, cc, v, w⟩ := row
    split at h
    · cases h
    · rename_i a1 as1 t1 hcl
      simp only [Option.some.injEq, Prod.mk.injEq] at h
      obtain ⟨rfl, rfl, rfl, rfl⟩ := h
      obtain ⟨r, sp2, σ2, hev, hpc⟩ := hc
      obtain ⟨⟨b1, b2⟩, k1⟩ := k r sp2 σ2 hpc
      exact fun dr hdr => mCl_ok (mX_dr hX dr) hok hr hcl hev hd hd2 b1 b2 (k1 dr hdr)
theorem mJ_callP (hX : mX g md p s m args meth c n0) {pc np a d1 lk : Nat} {L : mLs} {st as t : List Value} {ex : mSh} {σ : mHp} {v : Value} (hok : mOkP md) (h : mClF md (pc, L, st, SH lk ex, σ) = some (a, as, np, t)) (hd : d1 + 1 ≤ R.frames) (hd2 : 41 * (d1 + 1) ≤ R.locals) (hB : (SH lk ex).length - n0 ≤ R.cells ∧ mTot (SH lk ex) - t0 ≤ R.slots) (hc : mNP g l d1 a as lk ex σ v) (k : mJ g l md p e R s m args below meth c n0 t0 Q (np, L, v :: t, SH lk ex, σ)) : mJ g l md p e R s m args below meth c n0 t0 Q (pc, L, st, SH lk ex, σ) :=
  mJ_call hX hok h hd hd2 hc (fun r sp1 σ1 hq => by obtain ⟨rfl, rfl, rfl⟩ := hq; exact ⟨hB, k⟩)
theorem mJ_callR (hX : mX g md p s m args meth c n0) {pc np a d1 lk : Nat} {L : mLs} {st as t : List Value} {ex : mSh} {σ : mHp} {v : Value} {P : mHp → Prop} (hok : mOkP md) (h : mClF md (pc, L, st, SH lk ex, σ) = some (a, as, np, t)) (hd : d1 + 1 ≤ R.frames) (hd2 : 41 * (d1 + 1) ≤ R.locals) (hB : (SH lk ex).length - n0 ≤ R.cells ∧ mTot (SH lk ex) - t0 ≤ R.slots) (hc : mNR g l d1 a as lk ex σ v P) (k : ∀ σ1 : mHp, P σ1 → mJ g l md p e R s m args below meth c n0 t0 Q (np, L, v :: t, SH lk ex, σ1)) : mJ g l md p e R s m args below meth c n0 t0 Q (pc, L, st, SH lk ex, σ) :=
  mJ_call hX hok h hd hd2 hc (fun r sp1 σ1 hq => by obtain ⟨rfl, rfl, h3⟩ := hq; exact ⟨hB, k σ1 h3⟩)
/-! the six that may draw -/
theorem mJ_d2f (hX : mX g md p s m args meth c n0) (hok : mOkP md) {pc np a b cc : Nat} {v : Int32} {w : Int64} {L : mLs} {t : List Value} {sp : mSh} {σ : mHp} {x : UInt64} (hr : mIn md.2.2.2.2.2 pc = some (.d2f, np, a, b, cc, v, w)) (k : ∀ r : UInt32, alike32 r (FP.d2f x) = true → mJ g l md p e R s m args below meth c n0 t0 Q (np, L, .float r :: t, sp, σ)) : mJ g l md p e R s m args below meth c n0 t0 Q (pc, L, .double x :: t, sp, σ) := by
  obtain ⟨hd0, -, hx0⟩ := mRow_ok hok.1 hr
  have e1 : np = pc + 1 := of_decide_eq_true hx0
  subst e1
  have hd : decode md.2.2.1 pc = .ok (.d2f, 1) := mDec hd0 rfl
  intro dr hdr hn ht H locs ls hP hS hl
  exact lv_d2f_any hdr lw_bits hX.1 hX.2.1 hd (fun r d1 hal hd1 => k r hal d1 hd1 hn ht H locs ls hP hS hl)
theorem mJ_f2d (hX : mX g md p s m args meth c n0) (hok : mOkP md) {pc np a b cc : Nat} {v : Int32} {w : Int64} {L : mLs} {t : List Value} {sp : mSh} {σ : mHp} {x : UInt32} (hr : mIn md.2.2.2.2.2 pc = some (.f2d, np, a, b, cc, v, w)) (k : ∀ r : UInt64, alike64 r (FP.f2d x) = true → mJ g l md p e R s m args below meth c n0 t0 Q (np, L, .double r :: t, sp, σ)) : mJ g l md p e R s m args below meth c n0 t0 Q (pc, L, .float x :: t, sp, σ) := by
  obtain ⟨hd0, -, hx0⟩ := mRow_ok hok.1 hr
  have e1 : np = pc + 1 := of_decide_eq_true hx0
  subst e1
  have hd : decode md.2.2.1 pc = .ok (.f2d, 1) := mDec hd0 rfl
  intro dr hdr hn ht H locs ls hP hS hl
  exact lv_f2d_any hdr lw_bits hX.1 hX.2.1 hd (fun r d1 hal hd1 => k r hal d1 hd1 hn ht H locs ls hP hS hl)
theorem mJ_fdiv (hX : mX g md p s m args meth c n0) (hok : mOkP md) {pc np a b cc : Nat} {v : Int32} {w : Int64} {L : mLs} {t : List Value} {sp : mSh} {σ : mHp} {x y : UInt32} (hr : mIn md.2.2.2.2.2 pc = some (.fdiv, np, a, b, cc, v, w)) (k : ∀ r : UInt32, alike32 r (FP.fdiv x y) = true → mJ g l md p e R s m args below meth c n0 t0 Q (np, L, .float r :: t, sp, σ)) : mJ g l md p e R s m args below meth c n0 t0 Q (pc, L, .float y :: .float x :: t, sp, σ) := by
  obtain ⟨hd0, -, hx0⟩ := mRow_ok hok.1 hr
  have e1 : np = pc + 1 := of_decide_eq_true hx0
  subst e1
  have hd : decode md.2.2.1 pc = .ok (.fdiv, 1) := mDec hd0 rfl
  intro dr hdr hn ht H locs ls hP hS hl
  exact lv_fdiv_any hdr lw_bits hX.1 hX.2.1 hd (fun r d1 hal hd1 => k r hal d1 hd1 hn ht H locs ls hP hS hl)
theorem mJ_frem (hX : mX g md p s m args meth c n0) (hok : mOkP md) {pc np a b cc : Nat} {v : Int32} {w : Int64} {L : mLs} {t : List Value} {sp : mSh} {σ : mHp} {x y : UInt32} (hr : mIn md.2.2.2.2.2 pc = some (.frem, np, a, b, cc, v, w)) (k : ∀ r : UInt32, alike32 r (FP.frem x y) = true → mJ g l md p e R s m args below meth c n0 t0 Q (np, L, .float r :: t, sp, σ)) : mJ g l md p e R s m args below meth c n0 t0 Q (pc, L, .float y :: .float x :: t, sp, σ) := by
  obtain ⟨hd0, -, hx0⟩ := mRow_ok hok.1 hr
  have e1 : np = pc + 1 := of_decide_eq_true hx0
  subst e1
  have hd : decode md.2.2.1 pc = .ok (.frem, 1) := mDec hd0 rfl
  intro dr hdr hn ht H locs ls hP hS hl
  exact lv_frem_any hdr lw_bits hX.1 hX.2.1 hd (fun r d1 hal hd1 => k r hal d1 hd1 hn ht H locs ls hP hS hl)
theorem mJ_ddiv (hX : mX g md p s m args meth c n0) (hok : mOkP md) {pc np a b cc : Nat} {v : Int32} {w : Int64} {L : mLs} {t : List Value} {sp : mSh} {σ : mHp} {x y : UInt64} (hr : mIn md.2.2.2.2.2 pc = some (.ddiv, np, a, b, cc, v, w)) (k : ∀ r : UInt64, alike64 r (FP.ddiv x y) = true → mJ g l md p e R s m args below meth c n0 t0 Q (np, L, .double r :: t, sp, σ)) : mJ g l md p e R s m args below meth c n0 t0 Q (pc, L, .double y :: .double x :: t, sp, σ) := by
  obtain ⟨hd0, -, hx0⟩ := mRow_ok hok.1 hr
  have e1 : np = pc + 1 := of_decide_eq_true hx0
  subst e1
  have hd : decode md.2.2.1 pc = .ok (.ddiv, 1) := mDec hd0 rfl
  intro dr hdr hn ht H locs ls hP hS hl
  exact lv_ddiv_any hdr lw_bits hX.1 hX.2.1 hd (fun r d1 hal hd1 => k r hal d1 hd1 hn ht H locs ls hP hS hl)
theorem mJ_drem (hX : mX g md p s m args meth c n0) (hok : mOkP md) {pc np a b cc : Nat} {v : Int32} {w : Int64} {L : mLs} {t : List Value} {sp : mSh} {σ : mHp} {x y : UInt64} (hr : mIn md.2.2.2.2.2 pc = some (.drem, np, a, b, cc, v, w)) (k : ∀ r : UInt64, alike64 r (FP.drem x y) = true → mJ g l md p e R s m args below meth c n0 t0 Q (np, L, .double r :: t, sp, σ)) : mJ g l md p e R s m args below meth c n0 t0 Q (pc, L, .double y :: .double x :: t, sp, σ) := by
  obtain ⟨hd0, -, hx0⟩ := mRow_ok hok.1 hr
  have e1 : np = pc + 1 := of_decide_eq_true hx0
  subst e1
  have hd : decode md.2.2.1 pc = .ok (.drem, 1) := mDec hd0 rfl
  intro dr hdr hn ht H locs ls hP hS hl
  exact lv_drem_any hdr lw_bits hX.1 hX.2.1 hd (fun r d1 hal hd1 => k r hal d1 hd1 hn ht H locs ls hP hS hl)
/-- a contract of a method that may draw; it makes no cells -/
def mQD (g : mG) (sp : mSh) (Post : Value → mHp → Prop) : Array Value → State → Outcome → State → Prop := fun A st oc t => ∃ (v : Value) (σ1 : mHp), Post v σ1 ∧ mPost g (some v) sp σ1 A st oc t
def mCD (g : mG) (l : Launch) (d a : Nat) (as : List Value) (sp : mSh) (σ : mHp) (Post : Value → mHp → Prop) : Prop := MetD lw_cs l (mD a).1 (mWs a) (mRm d 0 0) (mPre g as sp σ) (mQD g sp Post) 0 0 (mA g)
theorem mJ_ret {pc : Nat} {L : mLs} {st : List Value} {sp : mSh} {σ : mHp} {C : Prop} {v : Value} {Post : Value → mHp → Prop} (hX : mX g md p s m args meth c sp.length) (hok : mOkP md) (h : mRtF md (pc, L, st, sp, σ) = some (C, some v)) (hC : C) (hp : Post v σ) : mJ g l md p e R s m args below meth c sp.length (mTot sp) (MQD lw_cs below (mQD g sp Post) args s 0 0 (mA g)) (pc, L, st, sp, σ) := by
  unfold mRtF at h
  simp only at h
  split at h
  · cases h
  · rename_i row hr
    intro dr hd hn ht H locs ls hP hS hl
    have W1 := mRt_ok (g := g) (sp := sp) (p := p) (l := l) (e := e) (R := R) (below := below) (n0 := sp.length) (t0 := mTot sp) (L := L) (σ := σ) (mX_dr hX dr) hok hr h hC hn ht H locs ls hP hS hl
    refine W.endD hd ?_
    intro T hT X
    obtain ⟨t, a, o, b1, b2, b3, b4⟩ := W1 T hT X
    rw [Nat.sub_self, Nat.sub_self] at b4
    exact ⟨t, a, o, b1, b2, ⟨v, σ, hp, b3⟩, b4⟩
theorem mCD_of {d a : Nat} {as : List Value} {sp : mSh} {σ : mHp} {L : mLs} {Post : Value → mHp → Prop} (hmd : mD a = md) (ha : a < mdL.length) (hpl : plainName (mD a).1.cls = true) (hL : mL0 md.2.2.2.1 as some = some L) (k : ∀ (p : Program) (e : Env) (R : Room) (s : State) (m : MethodId) (args : Array Value) (below : List Frame) (meth : Method) (c : Code), mX g md p s m args meth c sp.length → d ≤ R.frames → 41 * d ≤ R.locals → mJ g l md p e R s m args below meth c sp.length (mTot sp) (MQD lw_cs below (mQD g sp Post) args s 0 0 (mA g)) (0, L, [], sp, σ)) : mCD g l d a as sp σ Post := by
  subst hmd
  obtain ⟨m1, m2, m3⟩ := mMdD ha
  refine MetD.ofW (cc := (mD a).2.2.1) (maxL := (mD a).2.2.2.1) (ret := (mD a).2.2.2.2.1) hpl mCoW ?_
  intro p e s m args below meth c s₁ B hml hv hd0
  obtain ⟨rfl, hz, hH, hP, hK⟩ := hv
  have hts := atoms_spec (ws := mWs a) B.pre
  have hown : s.vm.findClass (mD a).1.cls = some m.cls := findClass_of_methodNamed B.named
  have hin : meth.name = (mD a).1.name := (name_of_methodNamed B.named B.method).1
  have hX : mX g (mD a) p s m (as.map (mE (mGh g))).toArray meth c sp.length := ⟨B.exec, B.bytes, hml, by rw [← m1]; exact hown, fun w hw => hts w (List.mem_cons_of_mem _ hw), hK, B.returns, B.notSynchronized, hz, hH, hin⟩
  have M := k p e (headSpec (mWs a) (mRm d 0 0)).room s m (as.map (mE (mGh g))).toArray below meth c hX (Nat.le_refl _) (Nat.le_refl _) s.drawn hd0
  obtain ⟨L', e1, e2, e3, e4⟩ := mL0_spec (h := mGh g) hL
  cases e1
  rw [lg_entry_eq]
  have hl := lv_entry (as.map (mE (mGh g))) (n := (mD a).2.2.2.1) e3
  have W1 := M (Nat.le_refl _) (Nat.le_refl _) s.heap [] _ hP va_S.rf ⟨e2, hl.1, hl.2.1, fun q hq => hl.2.2 q (e4 0 q hq)⟩
  have W1 : W p l e (headSpec (mWs a) (mRm d 0 0)).room (s.setDrawn s.drawn) m (as.map (mE (mGh g))).toArray below meth c s.heap [] (sp.length - sp.length) (mTot sp - mTot sp) _ (F0 m 0 _ []) := W1
  rw [Nat.sub_self, Nat.sub_self] at W1
  exact W1
end J
theorem o01 {o : Int32} : (0 ≤ o ∧ o ≤ 1) ↔ (o = 0 ∨ o = 1) := by
  rw [show (o ≤ 1) ↔ (o < 2) from i_le1 (n := 2) (by omega) (by omega), show (0 ≤ o ∧ o < 2) ↔ _ from i_in (n := 2) (by omega)]
  constructor
  · rintro ⟨j, hj, rfl⟩
    match j, hj with
    | 0, _ => exact Or.inl rfl
    | 1, _ => exact Or.inr rfl
  · rintro (rfl | rfl)
    · exact ⟨0, by omega, rfl⟩
    · exact ⟨1, by omega, rfl⟩
section T
variable {g : mG} {l : Launch} {d : Nat} {lk : Nat} {ex : mSh} {σ : mHp} {S : aSl}
/-- what the reference's compute answers and leaves -/
def ycQ (S : aSl) (s i o op : Int32) (σ : mHp) : Value → mHp → Prop := fun v σ1 => v = .int (qCmp S s i o) ∧ ((∃ k t a y1, k < 4 ∧ s = nI k ∧ (t = 2 ∨ t = 3) ∧ (o = 0 ∨ o = 1) ∧ (S k).1 = nI t ∧ i = nI a ∧ a < (S k).2 ∧ rfD t o (σ.2.2 65 (40 * k + a)) op y1 ∧ σ1 = mWD σ 65 (40 * k + a) y1) ∨ (qCmp S s i o ≠ 1 ∧ σ1 = σ))
theorem y_compute (hO : sOk S) (hY : yS σ S) (s i o op : Int32) : mCD g l (d + 2) 190 [.ref 48, .int s, .int i, .int o, .int op] (SH lk ex) σ (ycQ S s i o op σ) := by
  have ok : mOkP md_X9_compute := ok_at 190 (by decide) rfl
  refine mCD_of (md := md_X9_compute) rfl (lt_at (by decide)) (by decide) rfl ?_
  intro p e R s0 m args below meth c hX hR hR2
  have hB : (SH lk ex).length - (SH lk ex).length ≤ R.cells ∧ mTot (SH lk ex) - mTot (SH lk ex) ≤ R.slots := ⟨by omega, by omega⟩
  have bad : ¬ ((0 ≤ s ∧ s < 4) ∧ (o = 0 ∨ o = 1)) → ∀ L, mJ g l md_X9_compute p e R s0 m args below meth c (SH lk ex).length (mTot (SH lk ex)) (MQD lw_cs below (mQD g (SH lk ex) (ycQ S s i o op σ)) args s0 0 0 (mA g)) (16, L, [], SH lk ex, σ) := by
    intro hb L
    refine mJ_run hX (n := 400) ok rfl ?_
    exact mJ_ret hX ok rfl trivial (⟨by unfold qCmp; rw [if_neg hb], Or.inr ⟨by unfold qCmp; rw [if_neg hb]; decide, rfl⟩⟩)
  refine mJ_run hX (n := 400) ok rfl ?_
  refine mJ_callP hX ok rfl (by omega) (by omega) hB (m_isSlot (d := d) s) ?_
  by_cases hs : 0 ≤ s ∧ s < 4
  · rw [if_pos hs]
    refine mJ_if hX ok rfl (fun h1 => ?_) (fun h1 => ?_)
    · exact absurd h1 (by decide)
    · refine mJ_run hX (n := 400) ok rfl ?_
      refine mJ_callP hX ok rfl (by omega) (by omega) hB (m_isIn (d := d) o 0 1) ?_
      by_cases ho : o = 0 ∨ o = 1
      · rw [if_pos (o01.mpr ho)]
        refine mJ_if hX ok rfl (fun h2 => ?_) (fun h2 => ?_)
        · exact absurd h2 (by decide)
        · obtain ⟨k, hk, rfl⟩ := sl_in.mp hs
          obtain ⟨y1, y2⟩ := hY k hk
          have ek : (nI k).toNatClampNeg = k := nI_clamp (by omega)
          refine mJ_run hX (n := 400) ok rfl ?_
          refine mJ_side hX ok rfl (nI_in (by omega) (by omega)) ?_
          rw [nI_clamp (by omega), y1]
          rcases (hO k hk).2 with ⟨hS1, hS2⟩ | ⟨t, ht, hS1⟩
          · refine mJ_if hX ok rfl (fun h3 => ?_) (fun h3 => ?_)
            · rw [hS1] at h3
              exact absurd h3 (by decide)
            · refine mJ_run hX (n := 400) ok rfl ?_
              have ec : qCmp S (nI k) i o = -11 := by
                unfold qCmp
                rw [ek, if_pos ⟨hs, ho⟩, if_pos hS1]
              exact mJ_ret hX ok rfl trivial (⟨by rw [ec], Or.inr ⟨by rw [ec]; decide, rfl⟩⟩)
          · have hne : ¬ (S k).1 = -1 := fun z => by
              rw [hS1] at z
              exact absurd z (by match t, ht with | 0, _ => decide | 1, _ => decide | 2, _ => decide | 3, _ => decide)
            refine mJ_if hX ok rfl (fun h3 => ?_) (fun h3 => ?_)
            · refine mJ_run hX (n := 400) ok rfl ?_
              refine mJ_side hX ok rfl (nI_in (by omega) (by omega)) ?_
              rw [nI_clamp (by omega), y1]
              refine mJ_run hX (n := 400) ok rfl ?_
              by_cases h23 : t = 2 ∨ t = 3
              · refine mJ_if hX ok rfl (fun h4 => ?_) (fun h4 => ?_)
                · refine mJ_run hX (n := 400) ok rfl ?_
                  refine mJ_side hX ok rfl (nI_in (by omega) (by omega)) ?_
                  rw [nI_clamp (by omega), y2 hne]
                  refine mJ_run hX (n := 400) ok rfl ?_
                  refine mJ_callP hX ok rfl (by omega) (by omega) hB (m_isIn (d := d) i 0 (nI (S k).2 - 1)) ?_
                  have hl40 := (hO k hk).1
                  have hq23 : (S k).1 = 2 ∨ (S k).1 = 3 := by
                    rw [hS1]
                    rcases h23 with rfl | rfl
                    · exact Or.inl rfl
                    · exact Or.inr rfl
                  by_cases hc : covB (S k).2 i 1 = true
                  · rw [if_pos ((isIn_cov hl40 i).mpr hc)]
                    have ec : qCmp S (nI k) i o = 1 := by
                      unfold qCmp
                      rw [ek, if_pos ⟨hs, ho⟩, if_neg hne, if_pos hq23, if_pos hc]
                    obtain ⟨a, a1, rfl, ha1, hle⟩ := (qCov_iff hl40).mp (covB_iff.mp hc)
                    have e1 : a1 = 1 := ((nI_eq (a := a1) (b := 1) (by omega) (by omega)).mp ha1.symm)
                    subst e1
                    refine mJ_if hX ok rfl (fun h5 => ?_) (fun h5 => ?_)
                    · exact absurd h5 (by decide)
                    · refine mJ_run hX (n := 400) ok rfl ?_
                      rw [mul40, nI_add]
                      refine mJ_side hX ok rfl (nI_in (by omega) (by omega)) ?_
                      rw [nI_clamp (by omega)]
                      refine mJ_run hX (n := 400) ok rfl ?_
                      refine mJ_side hX ok rfl (nI_in (by omega) (by omega)) ?_
                      rw [nI_clamp (by omega), y1]
                      refine mJ_run hX (n := 400) ok rfl ?_
                      have fin : ∀ y1 L, rfD t o (σ.2.2 65 (40 * k + a)) op y1 → ∀ pc, pc = 157 ∨ pc = 124 → mJ g l md_X9_compute p e R s0 m args below meth c (SH lk ex).length (mTot (SH lk ex)) (MQD lw_cs below (mQD g (SH lk ex) (ycQ S (nI k) (nI a) o op σ)) args s0 0 0 (mA g)) (pc, L, [.double y1, .int (nI (40 * k + a)), .ref 65], SH lk ex, σ) := by
                        intro y1 L hy pc hpc
                        rcases hpc with rfl | rfl
                        · refine mJ_side hX ok rfl (nI_in (by omega) (by omega)) ?_
                          rw [nI_clamp (by omega)]
                          refine mJ_run hX (n := 400) ok rfl ?_
                          exact mJ_ret hX ok rfl trivial (⟨by rw [ec], Or.inl ⟨k, t, a, y1, hk, rfl, h23, ho, hS1, rfl, by omega, hy, rfl⟩⟩)
                        · refine mJ_side hX ok rfl (nI_in (by omega) (by omega)) ?_
                          rw [nI_clamp (by omega)]
                          refine mJ_run hX (n := 400) ok rfl ?_
                          exact mJ_ret hX ok rfl trivial (⟨by rw [ec], Or.inl ⟨k, t, a, y1, hk, rfl, h23, ho, hS1, rfl, by omega, hy, rfl⟩⟩)
                      refine mJ_if hX ok rfl (fun h6 => ?_) (fun h6 => ?_)
                      · have e2 : t = 2 := by
                          rcases h23 with rfl | rfl
                          · rfl
                          · rw [hS1] at h6
                            exact absurd h6 (by decide)
                        subst e2
                        refine mJ_run hX (n := 400) ok rfl ?_
                        refine mJ_d2f hX ok rfl (fun z hz => ?_)
                        refine mJ_run hX (n := 400) ok rfl ?_
                        rw [mul40, nI_add]
                        refine mJ_if hX ok rfl (fun h7 => ?_) (fun h7 => ?_)
                        · have h7 : o = 0 := h7
                          refine mJ_run hX (n := 400) ok rfl ?_
                          refine mJ_fdiv hX ok rfl (fun z1 hz1 => ?_)
                          refine mJ_f2d hX ok rfl (fun y1 hy1 => ?_)
                          refine mJ_run hX (n := 400) ok rfl ?_
                          exact fin _ _ (by unfold rfD; rw [if_pos rfl]; exact ⟨z, z1, hz, by rw [if_pos h7]; exact hz1, hy1⟩) _ (Or.inr rfl)
                        · have h7 : ¬ o = 0 := h7
                          refine mJ_run hX (n := 400) ok rfl ?_
                          refine mJ_frem hX ok rfl (fun z1 hz1 => ?_)
                          refine mJ_f2d hX ok rfl (fun y1 hy1 => ?_)
                          exact fin _ _ (by unfold rfD; rw [if_pos rfl]; exact ⟨z, z1, hz, by rw [if_neg h7]; exact hz1, hy1⟩) _ (Or.inr rfl)
                      · have e2 : t = 3 := by
                          rcases h23 with rfl | rfl
                          · exact absurd hS1 h6
                          · rfl
                        subst e2
                        refine mJ_run hX (n := 400) ok rfl ?_
                        rw [mul40, nI_add]
                        refine mJ_if hX ok rfl (fun h7 => ?_) (fun h7 => ?_)
                        · have h7 : o = 0 := h7
                          refine mJ_run hX (n := 400) ok rfl ?_
                          refine mJ_ddiv hX ok rfl (fun y1 hy1 => ?_)
                          refine mJ_run hX (n := 400) ok rfl ?_
                          exact fin _ _ (by unfold rfD; rw [if_neg (by decide), if_pos h7]; exact hy1) _ (Or.inl rfl)
                        · have h7 : ¬ o = 0 := h7
                          refine mJ_run hX (n := 400) ok rfl ?_
                          refine mJ_drem hX ok rfl (fun y1 hy1 => ?_)
                          exact fin _ _ (by unfold rfD; rw [if_neg (by decide), if_neg h7]; exact hy1) _ (Or.inl rfl)
                  · rw [if_neg (fun z => hc ((isIn_cov hl40 i).mp z))]
                    have ec : qCmp S (nI k) i o = -13 := by
                      unfold qCmp
                      rw [ek, if_pos ⟨hs, ho⟩, if_neg hne, if_pos hq23, if_neg hc]
                    refine mJ_if hX ok rfl (fun h5 => ?_) (fun h5 => ?_)
                    · refine mJ_run hX (n := 400) ok rfl ?_
                      exact mJ_ret hX ok rfl trivial (⟨by rw [ec], Or.inr ⟨by rw [ec]; decide, rfl⟩⟩)
                    · exact absurd rfl h5
                · rw [hS1] at h4
                  rcases h23 with rfl | rfl
                  · exact absurd (by decide) h4
                  · exact absurd (by decide) h4
              · have hq23 : ¬ ((S k).1 = 2 ∨ (S k).1 = 3) := by
                  rw [hS1]
                  have : t = 0 ∨ t = 1 := by omega
                  rcases this with rfl | rfl <;> decide
                have ec : qCmp S (nI k) i o = -12 := by
                  unfold qCmp
                  rw [ek, if_pos ⟨hs, ho⟩, if_neg hne, if_neg hq23]
                refine mJ_if hX ok rfl (fun h4 => ?_) (fun h4 => ?_)
                · rw [hS1] at h4
                  have : t = 0 ∨ t = 1 := by omega
                  rcases this with rfl | rfl
                  · exact absurd h4 (by decide)
                  · exact absurd h4 (by decide)
                · refine mJ_run hX (n := 400) ok rfl ?_
                  exact mJ_ret hX ok rfl trivial (⟨by rw [ec], Or.inr ⟨by rw [ec]; decide, rfl⟩⟩)
            · rw [hS1] at h3
              exact absurd (nI_pos' (by omega)) h3
      · rw [if_neg (fun z => ho (o01.mp z))]
        refine mJ_if hX ok rfl (fun h2 => ?_) (fun h2 => ?_)
        · exact bad (fun z => ho z.2) _
        · exact absurd rfl h2
  · rw [if_neg hs]
    refine mJ_if hX ok rfl (fun h1 => ?_) (fun h1 => ?_)
    · exact bad (fun z => hs z.1) _
    · exact absurd rfl h1
end T
