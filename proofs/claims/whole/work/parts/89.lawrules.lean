/-! rules of the law's walk -/
theorem mAl_ge {h b : Nat} : mAl h (1000000 + b) = b := by
  unfold mAl
  rw [if_neg (by omega)]
  omega
theorem lg_rfl (x : Int64) : lg_cmp x x = 0 := by
  unfold lg_cmp
  simp
def LL (b j : Nat) : mLs := [some (.ref (1000000 + b)), some (.ref 0), some (.ref 48), some (.int (nI j))]
section J
variable {g : mG} {l : Launch} {md : mMd} {p : Program} {e : Env} {R : Room} {s : State} {m : MethodId} {args : Array Value} {below : List Frame} {meth : Method} {c : Code} {n0 t0 : Nat} {Q : State → Prop} {b Ln : Nat} {xs : Nat → Int32}
/-- what the law's walk stands on -/
def lX (g : mG) (p : Program) (R : Room) (s : State) (m : MethodId) (args : Array Value) (meth : Method) (c : Code) (b Ln : Nat) (xs : Nat → Int32) : Prop :=
  mX g md_law p s m args meth c 0 ∧ va_X b Ln xs s s.heap ∧ b < s.heap.size ∧ Ln ≤ 3072 ∧ 300 ≤ R.frames ∧ 41 * 300 ≤ R.locals ∧ 1000 ≤ R.cells ∧ 1000000 ≤ R.slots
theorem SK_room (k : Nat) (hk : k ≤ 7) : (SK k).length ≤ 1000 ∧ mTot (SK k) ≤ 1000000 := by
  match k, hk with
  | 0, _ => decide +kernel
  | 1, _ => decide +kernel
  | 2, _ => decide +kernel
  | 3, _ => decide +kernel
  | 4, _ => decide +kernel
  | 5, _ => decide +kernel
  | 6, _ => decide +kernel
  | 7, _ => decide +kernel
theorem lX.room (h : lX g p R s m args meth c b Ln xs) (k : Nat) (hk : k ≤ 7) : (SH (lkL k) (exL k)).length - 0 ≤ R.cells ∧ mTot (SH (lkL k) (exL k)) - 0 ≤ R.slots := by
  have h1 := SK_room k hk
  unfold SK at h1
  obtain ⟨-, -, -, -, -, -, h2, h3⟩ := h
  omega
theorem mJ_sld (h : lX g p R s m args meth c b Ln xs) {pc np a b1 cc j : Nat} {v : Int32} {w : Int64} {L : mLs} {t : List Value} {sp : mSh} {σ : mHp} {x : Int32} (hr : mIn md_law.2.2.2.2.2 pc = some (.iaload, np, a, b1, cc, v, w)) (hx : x = nI j) (hj : j < Ln) (k : mJ g l md_law p e R s m args below meth c 0 0 Q (np, L, .int (xs j) :: t, sp, σ)) : mJ g l md_law p e R s m args below meth c 0 0 Q (pc, L, .int x :: .ref (1000000 + b) :: t, sp, σ) := by
  obtain ⟨hX, hxs, hbl, hLn, -⟩ := h
  obtain ⟨hd0, -, hx0⟩ := mRow_ok mOkP_law.1 hr
  have e1 : np = pc + 1 := of_decide_eq_true hx0
  subst e1
  subst hx
  have hd : decode md_law.2.2.1 pc = .ok (.iaload, 1) := mDec hd0 rfl
  intro dr hdr hn ht H locs ls hP hS hl
  show W p l e R (s.setDrawn dr) m args below meth c H locs _ _ Q (F0 m pc ls (.int (nI j) :: .ref (mAl (mGh g) (1000000 + b)) :: t.map (mE (mGh g))))
  rw [mAl_ge]
  have hbA : ¬ mA g b := by
    have := hX.2.2.2.2.2.2.2.2.1
    show ¬ mGh g ≤ b
    omega
  have hxs1 : va_X b Ln xs (s.setDrawn dr) (s.setDrawn dr).heap := va_X.moved (u := s) (Vm.Alike.refl _) hxs
  refine va_sld hX.1 hX.2.1 hxs1 hbl hbA hS (nI_in hj (by omega)) hd ?_
  rw [nI_clamp (by omega)]
  exact k dr hdr hn ht H locs ls hP hS hl
theorem mJ_slen (h : lX g p R s m args meth c b Ln xs) {pc np a b1 cc : Nat} {v : Int32} {w : Int64} {L : mLs} {t : List Value} {sp : mSh} {σ : mHp} (hr : mIn md_law.2.2.2.2.2 pc = some (.arraylength, np, a, b1, cc, v, w)) (k : mJ g l md_law p e R s m args below meth c 0 0 Q (np, L, .int (nI Ln) :: t, sp, σ)) : mJ g l md_law p e R s m args below meth c 0 0 Q (pc, L, .ref (1000000 + b) :: t, sp, σ) := by
  obtain ⟨hX, hxs, hbl, hLn, -⟩ := h
  obtain ⟨hd0, -, hx0⟩ := mRow_ok mOkP_law.1 hr
  have e1 : np = pc + 1 := of_decide_eq_true hx0
  subst e1
  have hd : decode md_law.2.2.1 pc = .ok (.arraylength, 1) := mDec hd0 rfl
  intro dr hdr hn ht H locs ls hP hS hl
  show W p l e R (s.setDrawn dr) m args below meth c H locs _ _ Q (F0 m pc ls (.ref (mAl (mGh g) (1000000 + b)) :: t.map (mE (mGh g))))
  rw [mAl_ge]
  have hbA : ¬ mA g b := by
    have := hX.2.2.2.2.2.2.2.2.1
    show ¬ mGh g ≤ b
    omega
  have hxs1 : va_X b Ln xs (s.setDrawn dr) (s.setDrawn dr).heap := va_X.moved (u := s) (Vm.Alike.refl _) hxs
  exact va_slen hX.1 hX.2.1 hxs1 hbl hbA hS hd (k dr hdr hn ht H locs ls hP hS hl)
/-- a search of the class: the cells may grow -/
theorem mJ_callS (h : lX g p R s m args meth c b Ln xs) {pc np a d1 k : Nat} {L : mLs} {st as t : List Value} {σ : mHp} {v : Value} {P : Nat → mHp → Prop} (hcl : mClF md_law (pc, L, st, SH (lkL k) (exL k), σ) = some (a, as, np, t)) (hd : d1 < 299) (hc : mNS g l d1 a as k σ v P) (kk : ∀ (k1 : Nat) (σ1 : mHp), k1 ≤ 7 → P k1 σ1 → mJ g l md_law p e R s m args below meth c 0 0 Q (np, L, v :: t, SH (lkL k1) (exL k1), σ1)) : mJ g l md_law p e R s m args below meth c 0 0 Q (pc, L, st, SH (lkL k) (exL k), σ) := by
  refine mJ_call h.1 mOkP_law hcl (by have := h.2.2.2.2.1; omega) (by have := h.2.2.2.2.2.1; omega) hc (fun r sp1 σ1 hq => ?_)
  obtain ⟨rfl, k1, h1, h2, rfl, h3⟩ := hq
  exact ⟨h.room k1 h2, kk k1 σ1 h2 h3⟩
theorem mJ_callC (h : lX g p R s m args meth c b Ln xs) {pc np a d1 k : Nat} (hk : k ≤ 7) {L : mLs} {st as t : List Value} {σ : mHp} {v : Value} {P : mHp → Prop} (hcl : mClF md_law (pc, L, st, SH (lkL k) (exL k), σ) = some (a, as, np, t)) (hd : d1 < 299) (hc : mNR g l d1 a as (lkL k) (exL k) σ v P) (kk : ∀ σ1 : mHp, P σ1 → mJ g l md_law p e R s m args below meth c 0 0 Q (np, L, v :: t, SH (lkL k) (exL k), σ1)) : mJ g l md_law p e R s m args below meth c 0 0 Q (pc, L, st, SH (lkL k) (exL k), σ) :=
  mJ_callR h.1 mOkP_law hcl (by have := h.2.2.2.2.1; omega) (by have := h.2.2.2.2.2.1; omega) (h.room k hk) hc kk
/-- a call of a method that may draw -/
theorem mJ_callD (hX : mX g md p s m args meth c n0) (hok : mOkP md) {pc np a d1 i a0 b0 cc : Nat} {v : Int32} {w : Int64} {L : mLs} {st as t : List Value} {sp : mSh} {σ : mHp} {Post : Value → mHp → Prop} (hr : mIn md.2.2.2.2.2 pc = some (.invokevirtual i, np, a0, b0, cc, v, w)) (h : mCl (.invokevirtual i, np, a0, b0, cc, v, w) st sp = some (a, as, t)) (hR : d1 + 1 ≤ R.frames) (hR2 : 41 * (d1 + 1) ≤ R.locals) (hRc : sp.length - n0 ≤ R.cells) (hRs : mTot sp - t0 ≤ R.slots) (hc : mCD g l d1 a as sp σ Post) (kk : ∀ (v : Value) (σ1 : mHp), Post v σ1 → mJ g l md p e R s m args below meth c n0 t0 Q (np, L, v :: t, sp, σ1)) : mJ g l md p e R s m args below meth c n0 t0 Q (pc, L, st, sp, σ) := by
  obtain ⟨hd0, -, hx0⟩ := mRow_ok hok.1 hr
  intro dr hdr hn ht H locs ls hP hS hl T hT X
  have hn : n0 ≤ sp.length := hn
  have ht : t0 ≤ mTot sp := ht
  have hX := mX_dr hX dr
  have X : Stand p l e R (s.setDrawn dr) m args below meth c T locs (sp.length - n0) (mTot sp - t0) := X
  have hsz : H.size = mGh g + sp.length := by
    have h1 := X.heapSize
    rw [hT, hX.2.2.2.2.2.2.2.2.1] at h1
    have h2 := mP_le hP (by have := hS.1; rw [hX.2.2.2.2.2.2.2.2.1] at this; omega)
    have h2 : mGh g + sp.length ≤ H.size := h2
    omega
  have hpre : ∀ U : State, U.heap = H → (s.setDrawn dr).WarmedH U.vm → mPre g as sp σ (as.map (mE (mGh g))).toArray U := by
    intro U hU hW
    refine ⟨rfl, by rw [hU]; exact hsz, fun q hq => ?_, by rw [hU]; exact hP, mK.warm hW hX.2.2.2.2.2.1⟩
    rw [hU, hS.2.1 q (by rw [hX.2.2.2.2.2.2.2.2.1]; omega) (by show ¬ mGh g ≤ q; omega)]
    exact hX.2.2.2.2.2.2.2.2.2.1 q hq
  have hfix : CallFix p m c md.2.2.1 md.2.2.2.1 (s.setDrawn dr) args mTB (mCn md.2.1) := ⟨hX.1, hX.2.1, hX.2.2.1, hX.2.2.2.1, hX.2.2.2.2.1⟩
  have hms : ∀ {tt : List Value}, mCs tt ≤ 8 → 2 * (F0 m pc ls (st.map (mE (mGh g)))).monitorRoom + ((tt.map (mE (mGh g))).map fun v => v.category).sum ≤ 8 := by
    intro tt htt
    show 2 * 0 + _ ≤ 8
    rw [mCs_eq]
    omega
  simp only [mRx, Bool.and_eq_true, decide_eq_true_eq] at hx0
  obtain ⟨e1, e2⟩ := hx0
  have hd : decode md.2.2.1 pc = .ok (.invokevirtual i, 3) := mDec hd0 e1
  unfold mCl at h
  simp only at h
  cases hb : Nat.blt a0 1000 with
  | false => rw [hb] at h; cases h
  | true =>
    rw [hb] at h
    obtain ⟨xs, t1, h1, h2, h3⟩ := mTk_spec h
    simp only [List.append_nil] at h3
    cases hc1 : Nat.ble (mCs t1) 8 with
    | false => rw [hc1] at h3; cases h3
    | true =>
      rw [hc1] at h3
      simp only [cond_true] at h3
      split at h3
      · rename_i ix As hxs
        split at h3
        · rename_i ci n1 r1 hsp
          cases hci : (Nat.beq ci cc && Nat.blt cc 10) with
          | false => rw [hci] at h3; cases h3
          | true =>
            rw [hci] at h3
            simp only [cond_true, Option.some.injEq, Prod.mk.injEq] at h3
            obtain ⟨rfl, rfl, rfl⟩ := h3
            rw [if_pos (by simpa [Nat.blt_eq] using hb)] at e2
            obtain ⟨f1, f2, f3, f4, f5, f6, f7, f8, f9⟩ := of_decide_eq_true e2
            simp only [Bool.and_eq_true] at hci
            have ecc : ci = cc := Nat.eq_of_beq_eq_true hci.1
            have hcc10 : cc < 10 := by simpa [Nat.blt_eq] using hci.2
            subst ecc
            obtain ⟨hat, hlt⟩ := mSpA_at hsp
            obtain ⟨m1, m2, m3⟩ := mMdD f6
            obtain ⟨q, hq, hqm, hqn, hqd⟩ := mCl_of hcc10
            have hqc : q.1 = mCn ci := by
              match ci, hcc10, hq with
              | 0, _, hq => cases hq; rfl
              | 1, _, hq => cases hq; rfl
              | 2, _, hq => cases hq; rfl
              | 3, _, hq => cases hq; rfl
              | 4, _, hq => cases hq; rfl
              | 5, _, hq => cases hq; rfl
              | 6, _, hq => cases hq; rfl
              | 7, _, hq => cases hq; rfl
              | 8, _, hq => cases hq; rfl
              | 9, _, hq => cases hq; rfl
            have hcell := mWl_at (g := g) (σ := σ) hat
            rw [mCell_obj hcc10] at hcell
            have hrec := va_recv (hX.2.2.2.2.2.1.1) hP hq hcell
            rw [hqc] at hrec
            have hlenA : As.length = b0 - 1 := by
              have := congrArg List.length hxs
              simp at this
              omega
            have hst : st = (As.reverse ++ [Value.ref ix]) ++ t1 := by
              rw [h2]
              have := congrArg List.reverse hxs
              rw [List.reverse_reverse] at this
              rw [this]
              simp
            have CB : CallB R (s.setDrawn dr) args (mCn md.2.1) i (mD a0).1 (mD a0).2.2.1 (mD a0).2.2.2.1 (mD a0).2.2.2.2.1 (mWs a0) (mRm d1 0 0) 0 0 (b0 - 1) :=
              callB_of (b0 - 1) hX.2.2.2.2.1 (mGood f6) mCoW rfl rfl (by rw [m1]; exact hX.2.2.2.2.1 _ (mNv_in _ f4)) (hX.2.2.2.2.1 _ (mML_in _ f1)) ⟨m3.1, m3.2, f7⟩ ⟨hR, by show 8 + ((mD a0).2.2.2.1 + 11) + 41 * d1 ≤ R.locals; omega⟩
            have cw : CallW R (s.setDrawn dr) args (mCn md.2.1) (mCn ci) i (mD a0).1 (mD a0).2.2.1 (mD a0).2.2.2.1 (mD a0).2.2.2.2.1 (mWs a0) (mRm d1 0 0) 0 0 (b0 - 1) :=
              ⟨CB, hX.2.2.2.2.1 _ (mIv_in _ f2), by rw [← f5]; exact hX.2.2.2.2.1 _ (mSv_in _ f3)⟩
            rw [hxs] at hc hpre
            have hrun := va_runV_D (cs := lw_cs) (s := s.setDrawn dr) (cells := sp.length - n0) (slots := mTot sp - t0) (As := As.map (mE (mGh g))) (rest := t1.map (mE (mGh g))) (b := mGh g + ix) (g := F0 m pc ls (st.map (mE (mGh g)))) (locs := locs) (below := below) (meth := meth) (p := p) (e := e) hfix hc cw ⟨mBlind, hrec, fun U hU hW => by
              have h9 := hpre U hU hW
              rw [List.map_cons, show mE (mGh g) (.ref ix) = .ref (mGh g + ix) by show Value.ref (mAl (mGh g) ix) = _; rw [mAl_lt hlt]] at h9
              exact h9⟩ rfl (by rw [List.length_map]; exact hlenA) hl.2.1 (by
              show st.map (mE (mGh g)) = _
              rw [hst, List.map_append, List.map_append, List.map_reverse]
              simp only [List.map_cons, List.map_nil, List.append_assoc, List.singleton_append]
              rw [show mE (mGh g) (.ref ix) = .ref (mGh g + ix) by show Value.ref (mAl (mGh g) ix) = _; rw [mAl_lt hlt]]) (hms (Nat.le_of_ble_eq_true hc1)) hd ⟨by omega, by omega⟩
            obtain ⟨v1, st₀, tt, T', L1, d', hd', h0, X', hL, u1, u2, ⟨v0, σ1, hpo, hq1, hq2, hq3⟩, st1⟩ := hrun T hT X
            have hv : v1 = some (mE (mGh g) v0) := by cases hq1; rfl
            subst hv
            have hS1 : va_S (mA g) s.heap tt.heap (locs ++ L1) := by
              refine ⟨Nat.le_trans hS.1 (by rw [← h0]; exact hq3.1), fun q hq1 hq2 => ?_, fun q hq => ?_⟩
              · rw [hq3.2 q (by rw [h0]; exact Nat.lt_of_lt_of_le hq1 hS.1) hq2, h0]
                exact hS.2.1 q hq1 hq2
              · rcases List.mem_append.mp hq with h | h
                · exact hS.2.2 q h
                · exact hL q h
            have K := kk v0 σ1 hpo d' (hdr.trans hd') hn ht tt.heap (locs ++ L1) ls hq2 hS1 hl T' u1 X'
            obtain ⟨t2, a1, b1⟩ := K
            subst e1
            exact ⟨t2, st1 t2 a1, b1⟩
        · cases h3
      · cases h3
end J
