/-! the law's loop, its start and its end -/
theorem nI_sub6 {Ln j : Nat} (h1 : Ln ≤ 3072) (h2 : j ≤ 3100) : (nI Ln - 6 < nI j) ↔ Ln < j + 6 := by
  rw [Int32.lt_iff_toInt_lt, Int32.toInt_sub, nI_toInt (show Ln < 2 ^ 31 by omega), nI_toInt (show j < 2 ^ 31 by omega), show (6 : Int32).toInt = 6 from rfl, Int.bmod_eq_of_le (by omega) (by omega)]
  omega
section J
variable {g : mG} {l : Launch} {md : mMd} {p : Program} {e : Env} {R : Room} {s : State} {m : MethodId} {args : Array Value} {below : List Frame} {meth : Method} {c : Code} {n0 t0 : Nat} {Q : State → Prop} {b Ln : Nat} {xs : Nat → Int32}
theorem mJ_runS (hX : mX g md p s m args meth c n0) (q : Nat) {n : Nat} : ∀ {cf cf1 : mCf}, mOkP md → mRunS md q n cf = some cf1 → mJ g l md p e R s m args below meth c n0 t0 Q cf1 → mJ g l md p e R s m args below meth c n0 t0 Q cf := by
  induction n with
  | zero => intro cf cf1 _ h k; cases h; exact k
  | succ n ih =>
    intro cf cf1 hok h k
    obtain ⟨pc, L, st, sp, σ⟩ := cf
    simp only [mRunS] at h
    split at h
    · cases h; exact k
    · rename_i r hr
      split at h
      · cases h; exact k
      · rename_i pc1 L1 st1 sp1 σ1 hx
        cases hb : Nat.beq pc1 q with
        | true =>
          rw [hb] at h
          cases h
          exact fun dr hd => mEx_ok (mX_dr hX dr) hok hr hx (k dr hd)
        | false =>
          rw [hb] at h
          have k1 := ih hok h k
          exact fun dr hd => mEx_ok (mX_dr hX dr) hok hr hx (k1 dr hd)
theorem mJ_newo (hX : mX g md p s m args meth c n0) (hok : mOkP md) {pc np a b1 cc i n : Nat} {v : Int32} {w : Int64} {L : mLs} {st : List Value} {sp sp1 : mSh} {σ : mHp} (hr : mIn md.2.2.2.2.2 pc = some (.new i, np, a, b1, cc, v, w)) (hi : sp.length = n) (hRc : n + 1 - n0 ≤ R.cells) (hRs : mTot sp + b1 - t0 ≤ R.slots) (hlt : n < 1000000) (hsp : sp ++ [(a, b1, List.replicate b1 none)] = sp1) (k : mJ g l md p e R s m args below meth c n0 t0 Q (np, L, .ref n :: st, sp1, mNew σ n)) : mJ g l md p e R s m args below meth c n0 t0 Q (pc, L, st, sp, σ) := by
  subst hi
  subst hsp
  exact fun dr hd => mNewo_ok (mX_dr hX dr) hok hr hRc hRs hlt (k dr hd)
theorem law_loop (h : lX g p R s m args meth c b Ln xs) (hE : ∀ (j k : Nat) (σ : mHp), k ≤ 7 → mJ g l md_law p e R s m args below meth c 0 0 Q (1156, LL b j, [], SH (lkL k) (exL k), σ)) : ∀ n j, j ≤ 3078 → Ln ≤ j + 6 * n → ∀ (k : Nat) (σ : mHp), k ≤ 7 → Rel σ → mJ g l md_law p e R s m args below meth c 0 0 Q (20, LL b j, [.ref (1000000 + b), .int (nI j)], SH (lkL k) (exL k), σ) := by
  have hX := h.1
  have ok := mOkP_law
  have hLn := h.2.2.2.1
  intro n
  induction n with
  | zero =>
    intro j hj hn k σ hk hr
    refine mJ_slen h rfl ?_
    refine mJ_run hX (n := 400) ok rfl ?_
    refine mJ_if hX ok rfl (fun hc => ?_) (fun hc => ?_)
    · exact hE j k σ hk
    · exact absurd ((nI_sub6 hLn (by omega)).mpr (by omega)) hc
  | succ n ih =>
    intro j hj hn k σ hk hr
    refine mJ_slen h rfl ?_
    refine mJ_run hX (n := 400) ok rfl ?_
    refine mJ_if hX ok rfl (fun hc => ?_) (fun hc => ?_)
    · exact hE j k σ hk
    · have hj6 : j + 6 ≤ Ln := by
        rcases Nat.lt_or_ge Ln (j + 6) with z | z
        · exact absurd ((nI_sub6 hLn (by omega)).mpr z) hc
        · exact z
      have K : lK g l p e R s m args below meth c Q b j := by
        intro k σ hk hr
        refine mJ_runS hX 20 (n := 400) ok rfl ?_
        rw [show nI j + 6 = nI (j + 6) from nI_add ..]
        exact ih (j + 6) (by omega) (by omega) k σ hk hr
      refine mJ_run hX (n := 400) ok rfl ?_
      refine mJ_sld h rfl rfl (by omega) ?_
      refine mJ_run hX (n := 400) ok rfl ?_
      refine mJ_sw hX ok rfl ⟨fun _ => l_reset h hk hj6 hr K, fun _ => ⟨fun _ => l_formulaCount h hk hj6 hr K, fun _ => ⟨fun _ => l_append h hk hj6 hr K, fun _ => ⟨fun _ => l_clearInput h hk hj6 hr K, fun _ => ⟨fun _ => l_parse h hk hj6 hr K, fun _ => ⟨fun _ => l_negate h hk hj6 hr K, fun _ => ⟨fun _ => l_combine h hk hj6 hr K, fun _ => ⟨fun _ => l_kind h hk hj6 hr K, fun _ => ⟨fun _ => l_part h hk hj6 hr K, fun _ => ⟨fun _ => l_size h hk hj6 hr K, fun _ => ⟨fun _ => l_subformulas h hk hj6 hr K, fun _ => ⟨fun _ => l_truthTable h hk hj6 hr K, fun _ => ⟨fun _ => l_isEquivalent h hk hj6 hr K, fun _ => ⟨fun _ => l_transform h hk hj6 hr K, fun _ => ⟨fun _ => l_rank h hk hj6 hr K, fun _ => ⟨fun _ => l_positionCount h hk hj6 hr K, fun _ => ⟨fun _ => l_manners h hk hj6 hr K, fun _ => ⟨fun _ => l_begin h hk hj6 hr K, fun _ => ⟨fun _ => l_claims h hk hj6 hr K, fun _ => ⟨fun _ => l_defences h hk hj6 hr K, fun _ => ⟨fun _ => l_moveCount h hk hj6 hr K, fun _ => ⟨fun _ => l_move h hk hj6 hr K, fun _ => ⟨fun _ => l_play h hk hj6 hr K, fun _ => ⟨fun _ => l_takeBack h hk hj6 hr K, fun _ => ⟨fun _ => l_positionRank h hk hj6 hr K, fun _ => ⟨fun _ => l_bestMove h hk hj6 hr K, fun _ => ⟨fun _ => l_hardestReply h hk hj6 hr K, fun _ => ⟨fun _ => l_allocate h hk hj6 hr K, fun _ => ⟨fun _ => l_release h hk hj6 hr K, fun _ => ⟨fun _ => l_putElement h hk hj6 hr K, fun _ => ⟨fun _ => l_element h hk hj6 hr K, fun _ => ⟨fun _ => l_compute h hk hj6 hr K, fun _ => ⟨fun _ => l_copyElements h hk hj6 hr K, fun _ => ⟨fun _ => l_replay h hk hj6 hr K, fun _ => K k σ hk hr⟩⟩⟩⟩⟩⟩⟩⟩⟩⟩⟩⟩⟩⟩⟩⟩⟩⟩⟩⟩⟩⟩⟩⟩⟩⟩⟩⟩⟩⟩⟩⟩⟩⟩
/-- the two objects at their start -/
theorem Rel_start {σ σ1 σ2 : mHp} (h1 : cF σ1 Fz ∧ cS σ1 Fz ∧ σ1.1 8 1 = 0 ∧ zI σ1 15 ∧ ∀ k, k < 4 → σ1.1 (32 + 4 * k) 3 = -1 ∧ σ1.1 (32 + 4 * k) 4 = 0) (h2 : fNw 48 (mNew σ1 48) σ2 ∧ mF σ2 Fz ∧ (∀ k, k ≠ 0 → σ2.1 48 k = 0) ∧ ∀ k, k < 4 → σ2.1 62 k = -1) : Rel σ2 := by
  obtain ⟨c1, c2, c3, c4, c5⟩ := h1
  obtain ⟨f, m1, m2, m3⟩ := h2
  have f1 : ∀ i, i < 48 → sm3 σ1 σ2 i := fun i hi => ((fNw.refl (n := 48) (σ := σ1)).new (Nat.le_refl 48) i hi).trans (f i hi)
  have hc : cL σ1 Fz (0, fun _ => 0) false false 0 0 (fun _ => (0, 0)) (fun _ => (-1, 0)) := ⟨c1, c2, ⟨c3, fun i hi => absurd hi (Nat.not_lt_zero _)⟩, ⟨c4 4, c4 5, c4 3, fun z => absurd z (by decide)⟩, fun k hk => c5 k hk⟩
  exact ⟨Fz, (0, fun _ => 0), false, false, 0, 0, fun _ => (0, 0), fun _ => (-1, 0), ⟨Fz_ok, Nat.zero_le _, dOk_0 Fz, fun k hk => ⟨Nat.zero_le _, Or.inl ⟨rfl, rfl⟩⟩⟩, cL_lo f1 hc, ⟨m1, ⟨m2 6 (by decide), fun i hi => absurd hi (Nat.not_lt_zero _)⟩, ⟨m2 24 (by decide), fun z => absurd z (by decide)⟩, fun k hk => ⟨m3 k hk, fun z => absurd rfl z⟩⟩, fun k t a _ _ _ h3 => absurd h3 (Nat.not_lt_zero _)⟩
theorem law_all (h : lX g p R s m args meth c b Ln xs) (hE : ∀ (j k : Nat) (σ : mHp), k ≤ 7 → mJ g l md_law p e R s m args below meth c 0 0 Q (1156, LL b j, [], SH (lkL k) (exL k), σ)) (σ : mHp) : mJ g l md_law p e R s m args below meth c 0 0 Q (0, [some (.ref (1000000 + b)), none, none, none], [], [], σ) := by
  have hX := h.1
  have ok := mOkP_law
  have hLn := h.2.2.2.1
  obtain ⟨-, -, -, -, hF, hLo, hC, hSl⟩ := id h
  refine mJ_newo hX ok rfl (n := 0) rfl (by omega) (by show 0 + 7 - 0 ≤ _; omega) (by omega) rfl ?_
  refine mJ_run hX (n := 400) ok rfl ?_
  refine mJ_call hX ok rfl (d1 := 4) (by omega) (by omega) (c_init (d := 0)) (fun r sp1 σ1 h1 => ?_)
  obtain ⟨rfl, rfl, h1⟩ := h1
  refine ⟨⟨Nat.le_trans (by decide) hC, Nat.le_trans (by decide) hSl⟩, ?_⟩
  refine mJ_run hX (n := 400) ok rfl ?_
  refine mJ_newo hX ok rfl (n := 48) rfl (by omega) (Nat.le_trans (by decide) hSl) (by omega) rfl ?_
  refine mJ_run hX (n := 400) ok rfl ?_
  refine mJ_call hX ok rfl (d1 := 1) (by omega) (by omega) (m_init (d := 0) (zI_new _ _)) (fun r sp1 σ2 h2 => ?_)
  obtain ⟨rfl, rfl, h2⟩ := h2
  refine ⟨h.room 0 (by omega), ?_⟩
  refine mJ_runS hX 20 (n := 400) ok rfl ?_
  exact law_loop h hE 512 0 (by omega) (by omega) 0 σ2 (by omega) (Rel_start (σ := σ1) h1 h2)
theorem law_end (hX : mX g md_law p s m #[Value.ref b] meth c 0) {L : mLs} {sp : mSh} {σ : mHp} (h1 : sp.length ≤ 600000) (h2 : mTot sp ≤ 7302250) : mJ g l md_law p e room_1 s m #[Value.ref b] below meth c 0 0 (lw_Z below #[Value.ref b] s) (1157, L, [.int 1], sp, σ) := by
  intro dr hd hn ht H locs ls hP hS hl
  have hdg : decode code 1157 = .ok (.ireturn, 1) := mDec (mRow_ok mOkP_law.1 (pc := 1157) (r := (.ireturn, 1158, 0, 0, 0, 0, 0)) rfl).1 rfl
  have hz := hX.2.2.2.2.2.2.2.2.1
  refine va_forget (fun q hq => ?_) (W.widen (k := 600000) (n := 7302250) (by show sp.length - 0 ≤ _; omega) (by show mTot sp - 0 ≤ _; omega) (lw_ret hd hX.1 hX.2.1 hX.2.2.2.2.2.2.1 hX.2.2.2.2.2.2.2.1 hdg))
  have h3 : mGh g ≤ q.base := hS.2.2 q hq
  show s.heap.size ≤ q.base
  omega
end J
