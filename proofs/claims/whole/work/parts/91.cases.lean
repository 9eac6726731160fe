/-! the law's cases: each asks both objects the same -/
theorem ne_m1 {t : Nat} (h : t < 4) : ¬ nI t = -1 := by
  match t, h with
  | 0, _ => decide
  | 1, _ => decide
  | 2, _ => decide
  | 3, _ => decide
theorem qPut_1 {S : aSl} (hO : sOk S) {q t a : Nat} {s i : Int32} (hq : q < 4) (es : s = nI q) (ht : t < 4) (hS : (S q).1 = nI t) (ei : i = nI a) (ha : a < (S q).2) : qPut S s i = 1 := by
  subst es
  subst ei
  unfold qPut
  rw [if_pos (sl_nI hq).1, (sl_nI hq).2, hS, if_neg (ne_m1 ht), if_pos (cov1 (hO q hq).1 ha)]
theorem qCmp_1 {S : aSl} (hO : sOk S) {q t a : Nat} {s i o : Int32} (hq : q < 4) (es : s = nI q) (ht : t = 2 ∨ t = 3) (ho : o = 0 ∨ o = 1) (hS : (S q).1 = nI t) (ei : i = nI a) (ha : a < (S q).2) : qCmp S s i o = 1 := by
  subst es
  subst ei
  unfold qCmp
  rw [if_pos ⟨(sl_nI hq).1, ho⟩, (sl_nI hq).2, hS, if_neg (ne_m1 (by omega)), if_pos (by rcases ht with rfl | rfl; exact Or.inl rfl; exact Or.inr rfl), if_pos (cov1 (hO q hq).1 ha)]
theorem qCp_in {S : aSl} (hO : sOk S) {q q2 a a2 n : Nat} {s i u j c : Int32} (hq : q < 4) (hq2 : q2 < 4) (es : s = nI q) (eu : u = nI q2) (ei : i = nI a) (ej : j = nI a2) (ec : c = nI n) (g1 : a + n ≤ (S q).2) (g2 : a2 + n ≤ (S q2).2) (g3 : (S q).1 ≠ -1) (g4 : (S q).1 = (S q2).1) : (0 ≤ s ∧ s < 4) ∧ (0 ≤ u ∧ u < 4) ∧ (S s.toNatClampNeg).1 ≠ -1 ∧ (S s.toNatClampNeg).1 = (S u.toNatClampNeg).1 ∧ covB (S s.toNatClampNeg).2 i c = true ∧ covB (S u.toNatClampNeg).2 j c = true := by
  subst es
  subst eu
  rw [(sl_nI hq).2, (sl_nI hq2).2]
  exact ⟨(sl_nI hq).1, (sl_nI hq2).1, g3, g4, covB_iff.mpr ((qCov_iff (hO q hq).1).mpr ⟨a, n, ei, ec, g1⟩), covB_iff.mpr ((qCov_iff (hO q2 hq2).1).mpr ⟨a2, n, ej, ec, g2⟩)⟩
section J
variable {g : mG} {l : Launch} {p : Program} {e : Env} {R : Room} {s : State} {m : MethodId} {args : Array Value} {below : List Frame} {meth : Method} {c : Code} {Q : State → Prop} {b Ln : Nat} {xs : Nat → Int32}
def lK (g : mG) (l : Launch) (p : Program) (e : Env) (R : Room) (s : State) (m : MethodId) (args : Array Value) (below : List Frame) (meth : Method) (c : Code) (Q : State → Prop) (b j : Nat) : Prop := ∀ (k : Nat) (σ : mHp), k ≤ 7 → Rel σ → mJ g l md_law p e R s m args below meth c 0 0 Q (1150, LL b j, [], SH (lkL k) (exL k), σ)
theorem l_formulaCount (h : lX g p R s m args meth c b Ln xs) {k j : Nat} {σ : mHp} (hk : k ≤ 7) (hj : j + 6 ≤ Ln) (hr : Rel σ) (K : lK g l p e R s m args below meth c Q b j) : mJ g l md_law p e R s m args below meth c 0 0 Q (197, LL b j, [], SH (lkL k) (exL k), σ) := by
  obtain ⟨F, T, bg, w, n, man, ps, S, hR⟩ := hr
  have hR0 := hR
  obtain ⟨⟨o1, o2, o3, o4⟩, ⟨c1, c2, c3, c4, c5⟩, ⟨r1, r2, r3, r4⟩, e1⟩ := hR0
  have hX := h.1
  have ok := mOkP_law
  have hLn := h.2.2.2.1
  refine mJ_run hX (n := 400) ok rfl ?_
  refine mJ_callC h hk rfl (by omega) (x_formulaCount (d := 0) c1) (fun σ1 h1 => ?_)
  subst h1
  refine mJ_run hX (n := 400) ok rfl ?_
  refine mJ_callC h hk rfl (by omega) (y_formulaCount (d := 0) r1) (fun σ2 h2 => ?_)
  subst h2
  refine mJ_if hX ok rfl (fun hc => ?_) (fun hc => ?_)
  · exact K k _ hk hR.rel
  · exact absurd rfl hc
theorem l_kind (h : lX g p R s m args meth c b Ln xs) {k j : Nat} {σ : mHp} (hk : k ≤ 7) (hj : j + 6 ≤ Ln) (hr : Rel σ) (K : lK g l p e R s m args below meth c Q b j) : mJ g l md_law p e R s m args below meth c 0 0 Q (335, LL b j, [], SH (lkL k) (exL k), σ) := by
  obtain ⟨F, T, bg, w, n, man, ps, S, hR⟩ := hr
  have hR0 := hR
  obtain ⟨⟨o1, o2, o3, o4⟩, ⟨c1, c2, c3, c4, c5⟩, ⟨r1, r2, r3, r4⟩, e1⟩ := hR0
  have hX := h.1
  have ok := mOkP_law
  have hLn := h.2.2.2.1
  refine mJ_run hX (n := 400) ok rfl ?_
  refine mJ_sld h rfl (show nI j + nI 1 = nI (j + 1) from nI_add ..) (by omega) ?_
  refine mJ_run hX (n := 400) ok rfl ?_
  refine mJ_callC h hk rfl (by omega) (x_kind (d := 0) o1 c1 (xs (j + 1))) (fun σ1 h1 => ?_)
  subst h1
  refine mJ_run hX (n := 400) ok rfl ?_
  refine mJ_sld h rfl (show nI j + nI 1 = nI (j + 1) from nI_add ..) (by omega) ?_
  refine mJ_run hX (n := 400) ok rfl ?_
  refine mJ_callC h hk rfl (by omega) (y_kind (d := 0) o1 r1 (xs (j + 1))) (fun σ2 h2 => ?_)
  subst h2
  refine mJ_if hX ok rfl (fun hc => ?_) (fun hc => ?_)
  · exact K k _ hk hR.rel
  · exact absurd rfl hc
theorem l_part (h : lX g p R s m args meth c b Ln xs) {k j : Nat} {σ : mHp} (hk : k ≤ 7) (hj : j + 6 ≤ Ln) (hr : Rel σ) (K : lK g l p e R s m args below meth c Q b j) : mJ g l md_law p e R s m args below meth c 0 0 Q (358, LL b j, [], SH (lkL k) (exL k), σ) := by
  obtain ⟨F, T, bg, w, n, man, ps, S, hR⟩ := hr
  have hR0 := hR
  obtain ⟨⟨o1, o2, o3, o4⟩, ⟨c1, c2, c3, c4, c5⟩, ⟨r1, r2, r3, r4⟩, e1⟩ := hR0
  have hX := h.1
  have ok := mOkP_law
  have hLn := h.2.2.2.1
  refine mJ_run hX (n := 400) ok rfl ?_
  refine mJ_sld h rfl (show nI j + nI 1 = nI (j + 1) from nI_add ..) (by omega) ?_
  refine mJ_run hX (n := 400) ok rfl ?_
  refine mJ_sld h rfl (show nI j + nI 2 = nI (j + 2) from nI_add ..) (by omega) ?_
  refine mJ_run hX (n := 400) ok rfl ?_
  refine mJ_callC h hk rfl (by omega) (x_part (d := 0) o1 c1 (xs (j + 1)) (xs (j + 2))) (fun σ1 h1 => ?_)
  subst h1
  refine mJ_run hX (n := 400) ok rfl ?_
  refine mJ_sld h rfl (show nI j + nI 1 = nI (j + 1) from nI_add ..) (by omega) ?_
  refine mJ_run hX (n := 400) ok rfl ?_
  refine mJ_sld h rfl (show nI j + nI 2 = nI (j + 2) from nI_add ..) (by omega) ?_
  refine mJ_run hX (n := 400) ok rfl ?_
  refine mJ_callC h hk rfl (by omega) (y_part (d := 0) o1 r1 (xs (j + 1)) (xs (j + 2))) (fun σ2 h2 => ?_)
  subst h2
  refine mJ_if hX ok rfl (fun hc => ?_) (fun hc => ?_)
  · exact K k _ hk hR.rel
  · exact absurd rfl hc
theorem l_size (h : lX g p R s m args meth c b Ln xs) {k j : Nat} {σ : mHp} (hk : k ≤ 7) (hj : j + 6 ≤ Ln) (hr : Rel σ) (K : lK g l p e R s m args below meth c Q b j) : mJ g l md_law p e R s m args below meth c 0 0 Q (391, LL b j, [], SH (lkL k) (exL k), σ) := by
  obtain ⟨F, T, bg, w, n, man, ps, S, hR⟩ := hr
  have hR0 := hR
  obtain ⟨⟨o1, o2, o3, o4⟩, ⟨c1, c2, c3, c4, c5⟩, ⟨r1, r2, r3, r4⟩, e1⟩ := hR0
  have hX := h.1
  have ok := mOkP_law
  have hLn := h.2.2.2.1
  refine mJ_run hX (n := 400) ok rfl ?_
  refine mJ_sld h rfl (show nI j + nI 1 = nI (j + 1) from nI_add ..) (by omega) ?_
  refine mJ_run hX (n := 400) ok rfl ?_
  refine mJ_callC h hk rfl (by omega) (x_size (d := 0) o1 c1 c2 (xs (j + 1))) (fun σ1 h1 => ?_)
  subst h1
  refine mJ_run hX (n := 400) ok rfl ?_
  refine mJ_sld h rfl (show nI j + nI 1 = nI (j + 1) from nI_add ..) (by omega) ?_
  refine mJ_run hX (n := 400) ok rfl ?_
  refine mJ_callC h hk rfl (by omega) (y_size (d := 0) o1 r1 (xs (j + 1))) (fun σ2 h2 => ?_)
  refine mJ_if hX ok rfl (fun hc => ?_) (fun hc => ?_)
  · exact K k _ hk (R0_q (rq_fr h2 (by omega) (by omega)) hR).rel
  · exact absurd rfl hc
theorem l_subformulas (h : lX g p R s m args meth c b Ln xs) {k j : Nat} {σ : mHp} (hk : k ≤ 7) (hj : j + 6 ≤ Ln) (hr : Rel σ) (K : lK g l p e R s m args below meth c Q b j) : mJ g l md_law p e R s m args below meth c 0 0 Q (414, LL b j, [], SH (lkL k) (exL k), σ) := by
  obtain ⟨F, T, bg, w, n, man, ps, S, hR⟩ := hr
  have hR0 := hR
  obtain ⟨⟨o1, o2, o3, o4⟩, ⟨c1, c2, c3, c4, c5⟩, ⟨r1, r2, r3, r4⟩, e1⟩ := hR0
  have hX := h.1
  have ok := mOkP_law
  have hLn := h.2.2.2.1
  refine mJ_run hX (n := 400) ok rfl ?_
  refine mJ_sld h rfl (show nI j + nI 1 = nI (j + 1) from nI_add ..) (by omega) ?_
  refine mJ_run hX (n := 400) ok rfl ?_
  refine mJ_callC h hk rfl (by omega) (x_subformulas (d := 0) o1 c1 c2 (xs (j + 1))) (fun σ1 h1 => ?_)
  subst h1
  refine mJ_run hX (n := 400) ok rfl ?_
  refine mJ_sld h rfl (show nI j + nI 1 = nI (j + 1) from nI_add ..) (by omega) ?_
  refine mJ_run hX (n := 400) ok rfl ?_
  refine mJ_callC h hk rfl (by omega) (y_subformulas (d := 0) o1 r1 (xs (j + 1))) (fun σ2 h2 => ?_)
  refine mJ_run hX (n := 400) ok rfl ?_
  refine mJ_if hX ok rfl (fun hc => ?_) (fun hc => ?_)
  · exact K k _ hk (R0_q (rq_fr h2 (by omega) (by omega)) hR).rel
  · exact absurd (lg_rfl _) hc
theorem l_truthTable (h : lX g p R s m args meth c b Ln xs) {k j : Nat} {σ : mHp} (hk : k ≤ 7) (hj : j + 6 ≤ Ln) (hr : Rel σ) (K : lK g l p e R s m args below meth c Q b j) : mJ g l md_law p e R s m args below meth c 0 0 Q (438, LL b j, [], SH (lkL k) (exL k), σ) := by
  obtain ⟨F, T, bg, w, n, man, ps, S, hR⟩ := hr
  have hR0 := hR
  obtain ⟨⟨o1, o2, o3, o4⟩, ⟨c1, c2, c3, c4, c5⟩, ⟨r1, r2, r3, r4⟩, e1⟩ := hR0
  have hX := h.1
  have ok := mOkP_law
  have hLn := h.2.2.2.1
  refine mJ_run hX (n := 400) ok rfl ?_
  refine mJ_sld h rfl (show nI j + nI 1 = nI (j + 1) from nI_add ..) (by omega) ?_
  refine mJ_run hX (n := 400) ok rfl ?_
  refine mJ_callC h hk rfl (by omega) (x_truthTable (d := 0) o1 c1 c2 (xs (j + 1))) (fun σ1 h1 => ?_)
  subst h1
  refine mJ_run hX (n := 400) ok rfl ?_
  refine mJ_sld h rfl (show nI j + nI 1 = nI (j + 1) from nI_add ..) (by omega) ?_
  refine mJ_run hX (n := 400) ok rfl ?_
  refine mJ_callC h hk rfl (by omega) (y_truthTable (d := 0) o1 r1 (xs (j + 1))) (fun σ2 h2 => ?_)
  refine mJ_if hX ok rfl (fun hc => ?_) (fun hc => ?_)
  · exact K k _ hk (R0_q (rq_fr h2 (by omega) (by omega)) hR).rel
  · exact absurd rfl hc
theorem l_isEquivalent (h : lX g p R s m args meth c b Ln xs) {k j : Nat} {σ : mHp} (hk : k ≤ 7) (hj : j + 6 ≤ Ln) (hr : Rel σ) (K : lK g l p e R s m args below meth c Q b j) : mJ g l md_law p e R s m args below meth c 0 0 Q (461, LL b j, [], SH (lkL k) (exL k), σ) := by
  obtain ⟨F, T, bg, w, n, man, ps, S, hR⟩ := hr
  have hR0 := hR
  obtain ⟨⟨o1, o2, o3, o4⟩, ⟨c1, c2, c3, c4, c5⟩, ⟨r1, r2, r3, r4⟩, e1⟩ := hR0
  have hX := h.1
  have ok := mOkP_law
  have hLn := h.2.2.2.1
  refine mJ_run hX (n := 400) ok rfl ?_
  refine mJ_sld h rfl (show nI j + nI 1 = nI (j + 1) from nI_add ..) (by omega) ?_
  refine mJ_run hX (n := 400) ok rfl ?_
  refine mJ_sld h rfl (show nI j + nI 2 = nI (j + 2) from nI_add ..) (by omega) ?_
  refine mJ_run hX (n := 400) ok rfl ?_
  refine mJ_callC h hk rfl (by omega) (x_isEquivalent (d := 0) o1 c1 c2 (xs (j + 1)) (xs (j + 2))) (fun σ1 h1 => ?_)
  subst h1
  refine mJ_run hX (n := 400) ok rfl ?_
  refine mJ_sld h rfl (show nI j + nI 1 = nI (j + 1) from nI_add ..) (by omega) ?_
  refine mJ_run hX (n := 400) ok rfl ?_
  refine mJ_sld h rfl (show nI j + nI 2 = nI (j + 2) from nI_add ..) (by omega) ?_
  refine mJ_run hX (n := 400) ok rfl ?_
  refine mJ_callC h hk rfl (by omega) (y_isEquivalent (d := 0) o1 r1 (xs (j + 1)) (xs (j + 2))) (fun σ2 h2 => ?_)
  refine mJ_if hX ok rfl (fun hc => ?_) (fun hc => ?_)
  · exact K k _ hk (R0_q (rq_fr h2 (by omega) (by omega)) hR).rel
  · exact absurd rfl hc
theorem l_claims (h : lX g p R s m args meth c b Ln xs) {k j : Nat} {σ : mHp} (hk : k ≤ 7) (hj : j + 6 ≤ Ln) (hr : Rel σ) (K : lK g l p e R s m args below meth c Q b j) : mJ g l md_law p e R s m args below meth c 0 0 Q (649, LL b j, [], SH (lkL k) (exL k), σ) := by
  obtain ⟨F, T, bg, w, n, man, ps, S, hR⟩ := hr
  have hR0 := hR
  obtain ⟨⟨o1, o2, o3, o4⟩, ⟨c1, c2, c3, c4, c5⟩, ⟨r1, r2, r3, r4⟩, e1⟩ := hR0
  have hX := h.1
  have ok := mOkP_law
  have hLn := h.2.2.2.1
  refine mJ_run hX (n := 400) ok rfl ?_
  refine mJ_callC h hk rfl (by omega) (x_claims (d := 0) c4) (fun σ1 h1 => ?_)
  subst h1
  refine mJ_run hX (n := 400) ok rfl ?_
  refine mJ_callC h hk rfl (by omega) (y_claims (d := 0) r3 o3.1) (fun σ2 h2 => ?_)
  subst h2
  refine mJ_run hX (n := 400) ok rfl ?_
  refine mJ_if hX ok rfl (fun hc => ?_) (fun hc => ?_)
  · exact K k _ hk hR.rel
  · exact absurd (lg_rfl _) hc
theorem l_defences (h : lX g p R s m args meth c b Ln xs) {k j : Nat} {σ : mHp} (hk : k ≤ 7) (hj : j + 6 ≤ Ln) (hr : Rel σ) (K : lK g l p e R s m args below meth c Q b j) : mJ g l md_law p e R s m args below meth c 0 0 Q (663, LL b j, [], SH (lkL k) (exL k), σ) := by
  obtain ⟨F, T, bg, w, n, man, ps, S, hR⟩ := hr
  have hR0 := hR
  obtain ⟨⟨o1, o2, o3, o4⟩, ⟨c1, c2, c3, c4, c5⟩, ⟨r1, r2, r3, r4⟩, e1⟩ := hR0
  have hX := h.1
  have ok := mOkP_law
  have hLn := h.2.2.2.1
  refine mJ_run hX (n := 400) ok rfl ?_
  refine mJ_callC h hk rfl (by omega) (x_defences (d := 0) c4) (fun σ1 h1 => ?_)
  subst h1
  refine mJ_run hX (n := 400) ok rfl ?_
  refine mJ_callC h hk rfl (by omega) (y_defences (d := 0) r3 o3.1) (fun σ2 h2 => ?_)
  subst h2
  refine mJ_run hX (n := 400) ok rfl ?_
  refine mJ_if hX ok rfl (fun hc => ?_) (fun hc => ?_)
  · exact K k _ hk hR.rel
  · exact absurd (lg_rfl _) hc
theorem l_moveCount (h : lX g p R s m args meth c b Ln xs) {k j : Nat} {σ : mHp} (hk : k ≤ 7) (hj : j + 6 ≤ Ln) (hr : Rel σ) (K : lK g l p e R s m args below meth c Q b j) : mJ g l md_law p e R s m args below meth c 0 0 Q (677, LL b j, [], SH (lkL k) (exL k), σ) := by
  obtain ⟨F, T, bg, w, n, man, ps, S, hR⟩ := hr
  have hR0 := hR
  obtain ⟨⟨o1, o2, o3, o4⟩, ⟨c1, c2, c3, c4, c5⟩, ⟨r1, r2, r3, r4⟩, e1⟩ := hR0
  have hX := h.1
  have ok := mOkP_law
  have hLn := h.2.2.2.1
  refine mJ_run hX (n := 400) ok rfl ?_
  refine mJ_callC h hk rfl (by omega) (x_moveCount (d := 0) c4) (fun σ1 h1 => ?_)
  subst h1
  refine mJ_run hX (n := 400) ok rfl ?_
  refine mJ_callC h hk rfl (by omega) (y_moveCount (d := 0) o1 r1 r3 o3.1) (fun σ2 h2 => ?_)
  refine mJ_if hX ok rfl (fun hc => ?_) (fun hc => ?_)
  · exact K k _ hk (R0_q (rq_L h2) hR).rel
  · exact absurd rfl hc
theorem l_move (h : lX g p R s m args meth c b Ln xs) {k j : Nat} {σ : mHp} (hk : k ≤ 7) (hj : j + 6 ≤ Ln) (hr : Rel σ) (K : lK g l p e R s m args below meth c Q b j) : mJ g l md_law p e R s m args below meth c 0 0 Q (690, LL b j, [], SH (lkL k) (exL k), σ) := by
  obtain ⟨F, T, bg, w, n, man, ps, S, hR⟩ := hr
  have hR0 := hR
  obtain ⟨⟨o1, o2, o3, o4⟩, ⟨c1, c2, c3, c4, c5⟩, ⟨r1, r2, r3, r4⟩, e1⟩ := hR0
  have hX := h.1
  have ok := mOkP_law
  have hLn := h.2.2.2.1
  refine mJ_run hX (n := 400) ok rfl ?_
  refine mJ_sld h rfl (show nI j + nI 1 = nI (j + 1) from nI_add ..) (by omega) ?_
  refine mJ_run hX (n := 400) ok rfl ?_
  refine mJ_sld h rfl (show nI j + nI 2 = nI (j + 2) from nI_add ..) (by omega) ?_
  refine mJ_run hX (n := 400) ok rfl ?_
  refine mJ_callC h hk rfl (by omega) (x_move (d := 0) o1 c1 c4 (xs (j + 1)) (xs (j + 2))) (fun σ1 h1 => ?_)
  subst h1
  refine mJ_run hX (n := 400) ok rfl ?_
  refine mJ_sld h rfl (show nI j + nI 1 = nI (j + 1) from nI_add ..) (by omega) ?_
  refine mJ_run hX (n := 400) ok rfl ?_
  refine mJ_sld h rfl (show nI j + nI 2 = nI (j + 2) from nI_add ..) (by omega) ?_
  refine mJ_run hX (n := 400) ok rfl ?_
  refine mJ_callC h hk rfl (by omega) (y_move (d := 0) o1 r1 r3 o3.1 (xs (j + 1)) (xs (j + 2))) (fun σ2 h2 => ?_)
  refine mJ_if hX ok rfl (fun hc => ?_) (fun hc => ?_)
  · exact K k _ hk (R0_q (rq_L h2) hR).rel
  · exact absurd rfl hc
theorem l_element (h : lX g p R s m args meth c b Ln xs) {k j : Nat} {σ : mHp} (hk : k ≤ 7) (hj : j + 6 ≤ Ln) (hr : Rel σ) (K : lK g l p e R s m args below meth c Q b j) : mJ g l md_law p e R s m args below meth c 0 0 Q (957, LL b j, [], SH (lkL k) (exL k), σ) := by
  obtain ⟨F, T, bg, w, n, man, ps, S, hR⟩ := hr
  have hR0 := hR
  obtain ⟨⟨o1, o2, o3, o4⟩, ⟨c1, c2, c3, c4, c5⟩, ⟨r1, r2, r3, r4⟩, e1⟩ := hR0
  have hX := h.1
  have ok := mOkP_law
  have hLn := h.2.2.2.1
  refine mJ_run hX (n := 400) ok rfl ?_
  refine mJ_sld h rfl (show nI j + nI 1 = nI (j + 1) from nI_add ..) (by omega) ?_
  refine mJ_run hX (n := 400) ok rfl ?_
  refine mJ_sld h rfl (show nI j + nI 2 = nI (j + 2) from nI_add ..) (by omega) ?_
  refine mJ_run hX (n := 400) ok rfl ?_
  refine mJ_callC h hk rfl (by omega) ((u_element (d := 0) o4 c5 (xs (j + 1)) (xs (j + 2))).post (congrArg Value.long (el_eq o4 e1 (xs (j + 1)) (xs (j + 2)))) (fun _ h => h)) (fun σ1 h1 => ?_)
  subst h1
  refine mJ_run hX (n := 400) ok rfl ?_
  refine mJ_sld h rfl (show nI j + nI 1 = nI (j + 1) from nI_add ..) (by omega) ?_
  refine mJ_run hX (n := 400) ok rfl ?_
  refine mJ_sld h rfl (show nI j + nI 2 = nI (j + 2) from nI_add ..) (by omega) ?_
  refine mJ_run hX (n := 400) ok rfl ?_
  refine mJ_callC h hk rfl (by omega) (y_element (d := 0) o4 r4 (xs (j + 1)) (xs (j + 2))) (fun σ2 h2 => ?_)
  subst h2
  refine mJ_run hX (n := 400) ok rfl ?_
  refine mJ_if hX ok rfl (fun hc => ?_) (fun hc => ?_)
  · exact K k _ hk hR.rel
  · exact absurd (lg_rfl _) hc
theorem l_rank (h : lX g p R s m args meth c b Ln xs) {k j : Nat} {σ : mHp} (hk : k ≤ 7) (hj : j + 6 ≤ Ln) (hr : Rel σ) (K : lK g l p e R s m args below meth c Q b j) : mJ g l md_law p e R s m args below meth c 0 0 Q (517, LL b j, [], SH (lkL k) (exL k), σ) := by
  obtain ⟨F, T, bg, w, n, man, ps, S, hR⟩ := hr
  have hR0 := hR
  obtain ⟨⟨o1, o2, o3, o4⟩, ⟨c1, c2, c3, c4, c5⟩, ⟨r1, r2, r3, r4⟩, e1⟩ := hR0
  have hX := h.1
  have ok := mOkP_law
  have hLn := h.2.2.2.1
  refine mJ_run hX (n := 400) ok rfl ?_
  refine mJ_sld h rfl (show nI j + nI 1 = nI (j + 1) from nI_add ..) (by omega) ?_
  refine mJ_run hX (n := 400) ok rfl ?_
  refine mJ_sld h rfl (show nI j + nI 2 = nI (j + 2) from nI_add ..) (by omega) ?_
  refine mJ_run hX (n := 400) ok rfl ?_
  refine mJ_callS h rfl (by omega) (x_rank (d := 0) o1 c1 hk (xs (j + 1)) (xs (j + 2))) (fun k1 σ1 hk1 h1 => ?_)
  have hR1 := R0_W (fO_W h1) hR
  obtain ⟨-, -, ⟨r1, r2, r3, r4⟩, -⟩ := id hR1
  refine mJ_run hX (n := 400) ok rfl ?_
  refine mJ_sld h rfl (show nI j + nI 1 = nI (j + 1) from nI_add ..) (by omega) ?_
  refine mJ_run hX (n := 400) ok rfl ?_
  refine mJ_sld h rfl (show nI j + nI 2 = nI (j + 2) from nI_add ..) (by omega) ?_
  refine mJ_run hX (n := 400) ok rfl ?_
  refine mJ_callC h hk1 rfl (by omega) (y_rank (d := 0) o1 r1 (xs (j + 1)) (xs (j + 2))) (fun σ2 h2 => ?_)
  refine mJ_if hX ok rfl (fun hc => ?_) (fun hc => ?_)
  · exact K k1 _ hk1 (R0_q (rq_S h2) hR1).rel
  · exact absurd rfl hc
theorem l_positionCount (h : lX g p R s m args meth c b Ln xs) {k j : Nat} {σ : mHp} (hk : k ≤ 7) (hj : j + 6 ≤ Ln) (hr : Rel σ) (K : lK g l p e R s m args below meth c Q b j) : mJ g l md_law p e R s m args below meth c 0 0 Q (550, LL b j, [], SH (lkL k) (exL k), σ) := by
  obtain ⟨F, T, bg, w, n, man, ps, S, hR⟩ := hr
  have hR0 := hR
  obtain ⟨⟨o1, o2, o3, o4⟩, ⟨c1, c2, c3, c4, c5⟩, ⟨r1, r2, r3, r4⟩, e1⟩ := hR0
  have hX := h.1
  have ok := mOkP_law
  have hLn := h.2.2.2.1
  refine mJ_run hX (n := 400) ok rfl ?_
  refine mJ_sld h rfl (show nI j + nI 1 = nI (j + 1) from nI_add ..) (by omega) ?_
  refine mJ_run hX (n := 400) ok rfl ?_
  refine mJ_sld h rfl (show nI j + nI 2 = nI (j + 2) from nI_add ..) (by omega) ?_
  refine mJ_run hX (n := 400) ok rfl ?_
  refine mJ_callS h rfl (by omega) (x_positionCount (d := 0) o1 c1 hk (xs (j + 1)) (xs (j + 2))) (fun k1 σ1 hk1 h1 => ?_)
  have hR1 := R0_W (fO_W h1) hR
  obtain ⟨-, -, ⟨r1, r2, r3, r4⟩, -⟩ := id hR1
  refine mJ_run hX (n := 400) ok rfl ?_
  refine mJ_sld h rfl (show nI j + nI 1 = nI (j + 1) from nI_add ..) (by omega) ?_
  refine mJ_run hX (n := 400) ok rfl ?_
  refine mJ_sld h rfl (show nI j + nI 2 = nI (j + 2) from nI_add ..) (by omega) ?_
  refine mJ_run hX (n := 400) ok rfl ?_
  refine mJ_callC h hk1 rfl (by omega) (y_positionCount (d := 0) o1 r1 (xs (j + 1)) (xs (j + 2))) (fun σ2 h2 => ?_)
  refine mJ_if hX ok rfl (fun hc => ?_) (fun hc => ?_)
  · exact K k1 _ hk1 (R0_q (rq_S h2) hR1).rel
  · exact absurd rfl hc
theorem l_manners (h : lX g p R s m args meth c b Ln xs) {k j : Nat} {σ : mHp} (hk : k ≤ 7) (hj : j + 6 ≤ Ln) (hr : Rel σ) (K : lK g l p e R s m args below meth c Q b j) : mJ g l md_law p e R s m args below meth c 0 0 Q (583, LL b j, [], SH (lkL k) (exL k), σ) := by
  obtain ⟨F, T, bg, w, n, man, ps, S, hR⟩ := hr
  have hR0 := hR
  obtain ⟨⟨o1, o2, o3, o4⟩, ⟨c1, c2, c3, c4, c5⟩, ⟨r1, r2, r3, r4⟩, e1⟩ := hR0
  have hX := h.1
  have ok := mOkP_law
  have hLn := h.2.2.2.1
  refine mJ_run hX (n := 400) ok rfl ?_
  refine mJ_sld h rfl (show nI j + nI 1 = nI (j + 1) from nI_add ..) (by omega) ?_
  refine mJ_run hX (n := 400) ok rfl ?_
  refine mJ_callS h rfl (by omega) (x_manners (d := 0) o1 c1 hk (xs (j + 1))) (fun k1 σ1 hk1 h1 => ?_)
  have hR1 := R0_W (fO_W h1) hR
  obtain ⟨-, -, ⟨r1, r2, r3, r4⟩, -⟩ := id hR1
  refine mJ_run hX (n := 400) ok rfl ?_
  refine mJ_sld h rfl (show nI j + nI 1 = nI (j + 1) from nI_add ..) (by omega) ?_
  refine mJ_run hX (n := 400) ok rfl ?_
  refine mJ_callC h hk1 rfl (by omega) (y_manners (d := 0) o1 r1 (xs (j + 1))) (fun σ2 h2 => ?_)
  refine mJ_if hX ok rfl (fun hc => ?_) (fun hc => ?_)
  · exact K k1 _ hk1 (R0_q (rq_S h2) hR1).rel
  · exact absurd rfl hc
theorem l_positionRank (h : lX g p R s m args meth c b Ln xs) {k j : Nat} {σ : mHp} (hk : k ≤ 7) (hj : j + 6 ≤ Ln) (hr : Rel σ) (K : lK g l p e R s m args below meth c Q b j) : mJ g l md_law p e R s m args below meth c 0 0 Q (769, LL b j, [], SH (lkL k) (exL k), σ) := by
  obtain ⟨F, T, bg, w, n, man, ps, S, hR⟩ := hr
  have hR0 := hR
  obtain ⟨⟨o1, o2, o3, o4⟩, ⟨c1, c2, c3, c4, c5⟩, ⟨r1, r2, r3, r4⟩, e1⟩ := hR0
  have hX := h.1
  have ok := mOkP_law
  have hLn := h.2.2.2.1
  refine mJ_run hX (n := 400) ok rfl ?_
  refine mJ_callS h rfl (by omega) (x_positionRank (d := 0) o1 c1 c4 o3.2.1 hk) (fun k1 σ1 hk1 h1 => ?_)
  have hR1 := R0_W (h1) hR
  obtain ⟨-, -, ⟨r1, r2, r3, r4⟩, -⟩ := id hR1
  refine mJ_run hX (n := 400) ok rfl ?_
  refine mJ_callC h hk1 rfl (by omega) (y_positionRank (d := 0) o1 r1 r3 o3.1 o3.2.1) (fun σ2 h2 => ?_)
  refine mJ_if hX ok rfl (fun hc => ?_) (fun hc => ?_)
  · exact K k1 _ hk1 (R0_q (rq_S h2) hR1).rel
  · exact absurd rfl hc
theorem l_bestMove (h : lX g p R s m args meth c b Ln xs) {k j : Nat} {σ : mHp} (hk : k ≤ 7) (hj : j + 6 ≤ Ln) (hr : Rel σ) (K : lK g l p e R s m args below meth c Q b j) : mJ g l md_law p e R s m args below meth c 0 0 Q (782, LL b j, [], SH (lkL k) (exL k), σ) := by
  obtain ⟨F, T, bg, w, n, man, ps, S, hR⟩ := hr
  have hR0 := hR
  obtain ⟨⟨o1, o2, o3, o4⟩, ⟨c1, c2, c3, c4, c5⟩, ⟨r1, r2, r3, r4⟩, e1⟩ := hR0
  have hX := h.1
  have ok := mOkP_law
  have hLn := h.2.2.2.1
  refine mJ_run hX (n := 400) ok rfl ?_
  refine mJ_callS h rfl (by omega) (x_bestMove (d := 0) o1 c1 c4 o3.2.1 hk) (fun k1 σ1 hk1 h1 => ?_)
  have hR1 := R0_W (h1) hR
  obtain ⟨-, -, ⟨r1, r2, r3, r4⟩, -⟩ := id hR1
  refine mJ_run hX (n := 400) ok rfl ?_
  refine mJ_callC h hk1 rfl (by omega) (y_bestMove (d := 0) o1 r1 r3 o3.1 o3.2.1) (fun σ2 h2 => ?_)
  refine mJ_if hX ok rfl (fun hc => ?_) (fun hc => ?_)
  · exact K k1 _ hk1 (R0_q (rq_S h2) hR1).rel
  · exact absurd rfl hc
theorem l_hardestReply (h : lX g p R s m args meth c b Ln xs) {k j : Nat} {σ : mHp} (hk : k ≤ 7) (hj : j + 6 ≤ Ln) (hr : Rel σ) (K : lK g l p e R s m args below meth c Q b j) : mJ g l md_law p e R s m args below meth c 0 0 Q (795, LL b j, [], SH (lkL k) (exL k), σ) := by
  obtain ⟨F, T, bg, w, n, man, ps, S, hR⟩ := hr
  have hR0 := hR
  obtain ⟨⟨o1, o2, o3, o4⟩, ⟨c1, c2, c3, c4, c5⟩, ⟨r1, r2, r3, r4⟩, e1⟩ := hR0
  have hX := h.1
  have ok := mOkP_law
  have hLn := h.2.2.2.1
  refine mJ_run hX (n := 400) ok rfl ?_
  refine mJ_sld h rfl (show nI j + nI 1 = nI (j + 1) from nI_add ..) (by omega) ?_
  refine mJ_run hX (n := 400) ok rfl ?_
  refine mJ_callS h rfl (by omega) (x_hardestReply (d := 0) o1 c1 c4 o3.2.1 hk (xs (j + 1))) (fun k1 σ1 hk1 h1 => ?_)
  have hR1 := R0_W (h1) hR
  obtain ⟨-, -, ⟨r1, r2, r3, r4⟩, -⟩ := id hR1
  refine mJ_run hX (n := 400) ok rfl ?_
  refine mJ_sld h rfl (show nI j + nI 1 = nI (j + 1) from nI_add ..) (by omega) ?_
  refine mJ_run hX (n := 400) ok rfl ?_
  refine mJ_callC h hk1 rfl (by omega) (y_hardestReply (d := 0) o1 r1 r3 o3.1 o3.2.1 (xs (j + 1))) (fun σ2 h2 => ?_)
  refine mJ_if hX ok rfl (fun hc => ?_) (fun hc => ?_)
  · exact K k1 _ hk1 (R0_q (rq_S h2) hR1).rel
  · exact absurd rfl hc
theorem l_negate (h : lX g p R s m args meth c b Ln xs) {k j : Nat} {σ : mHp} (hk : k ≤ 7) (hj : j + 6 ≤ Ln) (hr : Rel σ) (K : lK g l p e R s m args below meth c Q b j) : mJ g l md_law p e R s m args below meth c 0 0 Q (269, LL b j, [], SH (lkL k) (exL k), σ) := by
  obtain ⟨F, T, bg, w, n, man, ps, S, hR⟩ := hr
  have hR0 := hR
  obtain ⟨⟨o1, o2, o3, o4⟩, ⟨c1, c2, c3, c4, c5⟩, ⟨r1, r2, r3, r4⟩, e1⟩ := hR0
  have hX := h.1
  have ok := mOkP_law
  have hLn := h.2.2.2.1
  refine mJ_run hX (n := 400) ok rfl ?_
  refine mJ_sld h rfl (show nI j + nI 1 = nI (j + 1) from nI_add ..) (by omega) ?_
  refine mJ_run hX (n := 400) ok rfl ?_
  refine mJ_callC h hk rfl (by omega) (x_negate (d := 0) o1 c1 c2 (xs (j + 1))) (fun σ1 h1 => ?_)
  obtain ⟨h1, h2, h3⟩ := h1
  have hq := qNeg_ok o1 (xs (j + 1))
  obtain ⟨C, Rr, E⟩ := R0_fx hR (h1.wide (by omega) (by omega)) h2 h3 (cI_sm (h1 8 (by omega)) (h1 9 (by omega)) c3) hq.2
  refine mJ_run hX (n := 400) ok rfl ?_
  refine mJ_sld h rfl (show nI j + nI 1 = nI (j + 1) from nI_add ..) (by omega) ?_
  refine mJ_run hX (n := 400) ok rfl ?_
  refine mJ_callC h hk rfl (by omega) (y_negate (d := 0) o1 Rr.1 (xs (j + 1))) (fun σ2 h4 => ?_)
  obtain ⟨g1, g2, g3⟩ := h4
  refine mJ_if hX ok rfl (fun hc => ?_) (fun hc => ?_)
  · exact K k _ hk (R0_fy C Rr E (g1.wide (by omega) (by omega)) (g2.wide (by decide)) g3 (mI_k (g2 6 (by decide)).1 (g1 52 (by omega)).1 Rr.2.1) (oK.fle ⟨o1, o2, o3, o4⟩ hq.2 hq.1 o2)).rel
  · exact absurd rfl hc
theorem l_combine (h : lX g p R s m args meth c b Ln xs) {k j : Nat} {σ : mHp} (hk : k ≤ 7) (hj : j + 6 ≤ Ln) (hr : Rel σ) (K : lK g l p e R s m args below meth c Q b j) : mJ g l md_law p e R s m args below meth c 0 0 Q (292, LL b j, [], SH (lkL k) (exL k), σ) := by
  obtain ⟨F, T, bg, w, n, man, ps, S, hR⟩ := hr
  have hR0 := hR
  obtain ⟨⟨o1, o2, o3, o4⟩, ⟨c1, c2, c3, c4, c5⟩, ⟨r1, r2, r3, r4⟩, e1⟩ := hR0
  have hX := h.1
  have ok := mOkP_law
  have hLn := h.2.2.2.1
  refine mJ_run hX (n := 400) ok rfl ?_
  refine mJ_sld h rfl (show nI j + nI 1 = nI (j + 1) from nI_add ..) (by omega) ?_
  refine mJ_run hX (n := 400) ok rfl ?_
  refine mJ_sld h rfl (show nI j + nI 2 = nI (j + 2) from nI_add ..) (by omega) ?_
  refine mJ_run hX (n := 400) ok rfl ?_
  refine mJ_sld h rfl (show nI j + nI 3 = nI (j + 3) from nI_add ..) (by omega) ?_
  refine mJ_run hX (n := 400) ok rfl ?_
  refine mJ_callC h hk rfl (by omega) (x_combine (d := 0) o1 c1 c2 (xs (j + 1)) (xs (j + 2)) (xs (j + 3))) (fun σ1 h1 => ?_)
  obtain ⟨h1, h2, h3⟩ := h1
  have hq := qCom_ok o1 (xs (j + 1)) (xs (j + 2)) (xs (j + 3))
  obtain ⟨C, Rr, E⟩ := R0_fx hR (h1.wide (by omega) (by omega)) h2 h3 (cI_sm (h1 8 (by omega)) (h1 9 (by omega)) c3) hq.2
  refine mJ_run hX (n := 400) ok rfl ?_
  refine mJ_sld h rfl (show nI j + nI 1 = nI (j + 1) from nI_add ..) (by omega) ?_
  refine mJ_run hX (n := 400) ok rfl ?_
  refine mJ_sld h rfl (show nI j + nI 2 = nI (j + 2) from nI_add ..) (by omega) ?_
  refine mJ_run hX (n := 400) ok rfl ?_
  refine mJ_sld h rfl (show nI j + nI 3 = nI (j + 3) from nI_add ..) (by omega) ?_
  refine mJ_run hX (n := 400) ok rfl ?_
  refine mJ_callC h hk rfl (by omega) (y_combine (d := 0) o1 Rr.1 (xs (j + 1)) (xs (j + 2)) (xs (j + 3))) (fun σ2 h4 => ?_)
  obtain ⟨g1, g2, g3⟩ := h4
  refine mJ_if hX ok rfl (fun hc => ?_) (fun hc => ?_)
  · exact K k _ hk (R0_fy C Rr E (g1.wide (by omega) (by omega)) (g2.wide (by decide)) g3 (mI_k (g2 6 (by decide)).1 (g1 52 (by omega)).1 Rr.2.1) (oK.fle ⟨o1, o2, o3, o4⟩ hq.2 hq.1 o2)).rel
  · exact absurd rfl hc
theorem l_parse (h : lX g p R s m args meth c b Ln xs) {k j : Nat} {σ : mHp} (hk : k ≤ 7) (hj : j + 6 ≤ Ln) (hr : Rel σ) (K : lK g l p e R s m args below meth c Q b j) : mJ g l md_law p e R s m args below meth c 0 0 Q (256, LL b j, [], SH (lkL k) (exL k), σ) := by
  obtain ⟨F, T, bg, w, n, man, ps, S, hR⟩ := hr
  have hR0 := hR
  obtain ⟨⟨o1, o2, o3, o4⟩, ⟨c1, c2, c3, c4, c5⟩, ⟨r1, r2, r3, r4⟩, e1⟩ := hR0
  have hX := h.1
  have ok := mOkP_law
  have hLn := h.2.2.2.1
  refine mJ_run hX (n := 400) ok rfl ?_
  refine mJ_callC h hk rfl (by omega) (x_parse (d := 0) o2 c3 o1 c1 c2) (fun σ1 h1 => ?_)
  obtain ⟨h1, h2, h3, h4, h5, h6⟩ := h1
  obtain ⟨C, Rr, E⟩ := R0_fx hR (h1.wide (by omega) (by omega)) h2 h3 h6 h5
  refine mJ_run hX (n := 400) ok rfl ?_
  refine mJ_callC h hk rfl (by omega) (y_parse (d := 0) o2 Rr.2.1 Rr.1 o1) (fun σ2 h7 => ?_)
  obtain ⟨g1, g2, g3, g4⟩ := h7
  refine mJ_if hX ok rfl (fun hc => ?_) (fun hc => ?_)
  · exact K k _ hk (R0_fy C Rr E (g1.wide (by omega) (by omega)) (g2.wide (by decide)) g3 g4 (oK.fle ⟨o1, o2, o3, o4⟩ h5 h4 (Nat.zero_le _))).rel
  · exact absurd rfl hc
theorem l_transform (h : lX g p R s m args meth c b Ln xs) {k j : Nat} {σ : mHp} (hk : k ≤ 7) (hj : j + 6 ≤ Ln) (hr : Rel σ) (K : lK g l p e R s m args below meth c Q b j) : mJ g l md_law p e R s m args below meth c 0 0 Q (494, LL b j, [], SH (lkL k) (exL k), σ) := by
  obtain ⟨F, T, bg, w, n, man, ps, S, hR⟩ := hr
  have hR0 := hR
  obtain ⟨⟨o1, o2, o3, o4⟩, ⟨c1, c2, c3, c4, c5⟩, ⟨r1, r2, r3, r4⟩, e1⟩ := hR0
  have hX := h.1
  have ok := mOkP_law
  have hLn := h.2.2.2.1
  refine mJ_run hX (n := 400) ok rfl ?_
  refine mJ_sld h rfl (show nI j + nI 1 = nI (j + 1) from nI_add ..) (by omega) ?_
  refine mJ_run hX (n := 400) ok rfl ?_
  refine mJ_callC h hk rfl (by omega) (x_transform (d := 0) o2 c3 o1 c1 c2 (xs (j + 1))) (fun σ1 h1 => ?_)
  obtain ⟨h1, h2, h3, h4, h5, h6⟩ := h1
  obtain ⟨C, Rr, E⟩ := R0_fx hR (h1.wide (by omega) (by omega)) h2 h3 h6 h5
  refine mJ_run hX (n := 400) ok rfl ?_
  refine mJ_sld h rfl (show nI j + nI 1 = nI (j + 1) from nI_add ..) (by omega) ?_
  refine mJ_run hX (n := 400) ok rfl ?_
  refine mJ_callC h hk rfl (by omega) (y_transform (d := 0) o2 Rr.2.1 o1 Rr.1 (xs (j + 1))) (fun σ2 h7 => ?_)
  obtain ⟨g1, g2, -, g3, g4⟩ := h7
  refine mJ_if hX ok rfl (fun hc => ?_) (fun hc => ?_)
  · exact K k _ hk (R0_fy C Rr E (g1.wide (by omega) (by omega)) (g2.wide (by decide)) g3 g4 (oK.fle ⟨o1, o2, o3, o4⟩ h5 h4 (Nat.zero_le _))).rel
  · exact absurd rfl hc
theorem l_append (h : lX g p R s m args meth c b Ln xs) {k j : Nat} {σ : mHp} (hk : k ≤ 7) (hj : j + 6 ≤ Ln) (hr : Rel σ) (K : lK g l p e R s m args below meth c Q b j) : mJ g l md_law p e R s m args below meth c 0 0 Q (210, LL b j, [], SH (lkL k) (exL k), σ) := by
  obtain ⟨F, T, bg, w, n, man, ps, S, hR⟩ := hr
  have hR0 := hR
  obtain ⟨⟨o1, o2, o3, o4⟩, ⟨c1, c2, c3, c4, c5⟩, ⟨r1, r2, r3, r4⟩, e1⟩ := hR0
  have hX := h.1
  have ok := mOkP_law
  have hLn := h.2.2.2.1
  refine mJ_run hX (n := 400) ok rfl ?_
  refine mJ_sld h rfl (show nI j + nI 1 = nI (j + 1) from nI_add ..) (by omega) ?_
  refine mJ_run hX (n := 400) ok rfl ?_
  refine mJ_sld h rfl (show nI j + nI 2 = nI (j + 2) from nI_add ..) (by omega) ?_
  refine mJ_run hX (n := 400) ok rfl ?_
  refine mJ_callC h hk rfl (by omega) (x_append (d := 0) o2 c3 (xs (j + 1)) (xs (j + 2))) (fun σ1 h1 => ?_)
  obtain ⟨h1, h2⟩ := h1
  obtain ⟨C, Rr, E⟩ := R0_fx hR (h1.wide (by omega) (by omega)) (cF_fr h1 (by omega) c1) (cS_fr h1 (by omega) c2) h2 fle.refl
  refine mJ_run hX (n := 400) ok rfl ?_
  refine mJ_sld h rfl (show nI j + nI 1 = nI (j + 1) from nI_add ..) (by omega) ?_
  refine mJ_run hX (n := 400) ok rfl ?_
  refine mJ_sld h rfl (show nI j + nI 2 = nI (j + 2) from nI_add ..) (by omega) ?_
  refine mJ_run hX (n := 400) ok rfl ?_
  refine mJ_callC h hk rfl (by omega) (y_append (d := 0) o2 Rr.2.1 (xs (j + 1)) (xs (j + 2))) (fun σ2 h7 => ?_)
  obtain ⟨g1, g2, g3, g4⟩ := h7
  have f1 : fr 48 60 σ1 σ2 := fun i hi => ⟨g1 i (by omega) (by omega), by rw [g2], by rw [g2]⟩
  refine mJ_if hX ok rfl (fun hc => ?_) (fun hc => ?_)
  · exact K k _ hk (R0_fy C Rr E f1 (g3.wide (by decide)) (mF_k (g3 0 (by decide)).1 (fun i _ _ => ⟨g1 i (by omega) (by omega), by rw [g2], by rw [g2]⟩) Rr.1) g4 (oK.fle ⟨o1, o2, o3, o4⟩ fle.refl o1 (qApp_le o2 _ _))).rel
  · exact absurd rfl hc
theorem l_clearInput (h : lX g p R s m args meth c b Ln xs) {k j : Nat} {σ : mHp} (hk : k ≤ 7) (hj : j + 6 ≤ Ln) (hr : Rel σ) (K : lK g l p e R s m args below meth c Q b j) : mJ g l md_law p e R s m args below meth c 0 0 Q (243, LL b j, [], SH (lkL k) (exL k), σ) := by
  obtain ⟨F, T, bg, w, n, man, ps, S, hR⟩ := hr
  have hR0 := hR
  obtain ⟨⟨o1, o2, o3, o4⟩, ⟨c1, c2, c3, c4, c5⟩, ⟨r1, r2, r3, r4⟩, e1⟩ := hR0
  have hX := h.1
  have ok := mOkP_law
  have hLn := h.2.2.2.1
  refine mJ_run hX (n := 400) ok rfl ?_
  refine mJ_callC h hk rfl (by omega) (x_clearInput (d := 0) c3) (fun σ1 h1 => ?_)
  obtain ⟨h1, h2⟩ := h1
  obtain ⟨C, Rr, E⟩ := R0_fx hR (h1.wide (by omega) (by omega)) (cF_fr h1 (by omega) c1) (cS_fr h1 (by omega) c2) h2 fle.refl
  refine mJ_run hX (n := 400) ok rfl ?_
  refine mJ_callC h hk rfl (by omega) (y_clearInput (d := 0) Rr.2.1) (fun σ2 h7 => ?_)
  subst h7
  refine mJ_if hX ok rfl (fun hc => ?_) (fun hc => ?_)
  · exact K k _ hk (R0_fy C Rr E (fr.refl.WI (by omega) (by omega)) (fm.refl.WI (fun _ => by decide)) (mF_W Rr.1 (by decide)) ⟨by simp [WI_at]; rfl, fun i hi => absurd hi (Nat.not_lt_zero _)⟩ (oK.fle ⟨o1, o2, o3, o4⟩ fle.refl o1 (Nat.zero_le _))).rel
  · exact absurd rfl hc
theorem l_begin (h : lX g p R s m args meth c b Ln xs) {k j : Nat} {σ : mHp} (hk : k ≤ 7) (hj : j + 6 ≤ Ln) (hr : Rel σ) (K : lK g l p e R s m args below meth c Q b j) : mJ g l md_law p e R s m args below meth c 0 0 Q (606, LL b j, [], SH (lkL k) (exL k), σ) := by
  obtain ⟨F, T, bg, w, n, man, ps, S, hR⟩ := hr
  have hR0 := hR
  obtain ⟨⟨o1, o2, o3, o4⟩, ⟨c1, c2, c3, c4, c5⟩, ⟨r1, r2, r3, r4⟩, e1⟩ := hR0
  have hX := h.1
  have ok := mOkP_law
  have hLn := h.2.2.2.1
  refine mJ_run hX (n := 400) ok rfl ?_
  refine mJ_sld h rfl (show nI j + nI 1 = nI (j + 1) from nI_add ..) (by omega) ?_
  refine mJ_run hX (n := 400) ok rfl ?_
  refine mJ_sld h rfl (show nI j + nI 2 = nI (j + 2) from nI_add ..) (by omega) ?_
  refine mJ_run hX (n := 400) ok rfl ?_
  refine mJ_sld h rfl (show nI j + nI 3 = nI (j + 3) from nI_add ..) (by omega) ?_
  refine mJ_run hX (n := 400) ok rfl ?_
  refine mJ_callC h hk rfl (by omega) (x_begin (d := 0) o1 c1 c4 (xs (j + 1)) (xs (j + 2)) (xs (j + 3))) (fun σ1 h1 => ?_)
  have Rr := rL_hi (fun i _ _ => h1.1 i (by omega)) ⟨r1, r2, r3, r4⟩
  refine mJ_run hX (n := 400) ok rfl ?_
  refine mJ_sld h rfl (show nI j + nI 1 = nI (j + 1) from nI_add ..) (by omega) ?_
  refine mJ_run hX (n := 400) ok rfl ?_
  refine mJ_sld h rfl (show nI j + nI 2 = nI (j + 2) from nI_add ..) (by omega) ?_
  refine mJ_run hX (n := 400) ok rfl ?_
  refine mJ_sld h rfl (show nI j + nI 3 = nI (j + 3) from nI_add ..) (by omega) ?_
  refine mJ_run hX (n := 400) ok rfl ?_
  refine mJ_callC h hk rfl (by omega) (y_begin (d := 0) o1 Rr.1 Rr.2.2.1 (xs (j + 1)) (xs (j + 2)) (xs (j + 3))) (fun σ2 h2 => ?_)
  refine mJ_if hX ok rfl (fun hc => ?_) (fun hc => ?_)
  · cases hq : (qBeg F (xs (j + 1)) (xs (j + 2)) (xs (j + 3))).2 with
    | none =>
      rw [hq] at h1 h2
      obtain ⟨C, -, E⟩ := R0_dx hR h1.1 h1.2
      exact K k _ hk (R0_dy C Rr E h2.1 (h2.2.1.wide (by decide)) h2.2.2.1 h2.2.2.2 ⟨o1, o2, o3, o4⟩).rel
    | some q =>
      rw [hq] at h1 h2
      obtain ⟨C, -, E⟩ := R0_dx hR h1.1 h1.2
      exact K k _ hk (R0_dy C Rr E h2.1 (h2.2.1.wide (by decide)) h2.2.2.1 h2.2.2.2 (oK.dlg ⟨o1, o2, o3, o4⟩ (dOk_beg o1 hq))).rel
  · exact absurd rfl hc
theorem l_play (h : lX g p R s m args meth c b Ln xs) {k j : Nat} {σ : mHp} (hk : k ≤ 7) (hj : j + 6 ≤ Ln) (hr : Rel σ) (K : lK g l p e R s m args below meth c Q b j) : mJ g l md_law p e R s m args below meth c 0 0 Q (723, LL b j, [], SH (lkL k) (exL k), σ) := by
  obtain ⟨F, T, bg, w, n, man, ps, S, hR⟩ := hr
  have hR0 := hR
  obtain ⟨⟨o1, o2, o3, o4⟩, ⟨c1, c2, c3, c4, c5⟩, ⟨r1, r2, r3, r4⟩, e1⟩ := hR0
  have hX := h.1
  have ok := mOkP_law
  have hLn := h.2.2.2.1
  refine mJ_run hX (n := 400) ok rfl ?_
  refine mJ_sld h rfl (show nI j + nI 1 = nI (j + 1) from nI_add ..) (by omega) ?_
  refine mJ_run hX (n := 400) ok rfl ?_
  refine mJ_sld h rfl (show nI j + nI 2 = nI (j + 2) from nI_add ..) (by omega) ?_
  refine mJ_run hX (n := 400) ok rfl ?_
  refine mJ_callC h hk rfl (by omega) (x_play (d := 0) o1 c1 c4 o3.1 o3.2.1 (xs (j + 1)) (xs (j + 2))) (fun σ1 h1 => ?_)
  obtain ⟨C, Rr, E⟩ := R0_dx hR h1.1 h1.2
  refine mJ_run hX (n := 400) ok rfl ?_
  refine mJ_sld h rfl (show nI j + nI 1 = nI (j + 1) from nI_add ..) (by omega) ?_
  refine mJ_run hX (n := 400) ok rfl ?_
  refine mJ_sld h rfl (show nI j + nI 2 = nI (j + 2) from nI_add ..) (by omega) ?_
  refine mJ_run hX (n := 400) ok rfl ?_
  refine mJ_callC h hk rfl (by omega) (y_play (d := 0) o1 Rr.1 Rr.2.2.1 o3.1 o3.2.1 (xs (j + 1)) (xs (j + 2))) (fun σ2 h2 => ?_)
  refine mJ_if hX ok rfl (fun hc => ?_) (fun hc => ?_)
  · exact K k _ hk (R0_dy C Rr E h2.1.1 (h2.1.2.wide (by decide)) h2.2.1 h2.2.2 (oK.dlg ⟨o1, o2, o3, o4⟩ (dOk_play o1 o3 _ _))).rel
  · exact absurd rfl hc
theorem l_takeBack (h : lX g p R s m args meth c b Ln xs) {k j : Nat} {σ : mHp} (hk : k ≤ 7) (hj : j + 6 ≤ Ln) (hr : Rel σ) (K : lK g l p e R s m args below meth c Q b j) : mJ g l md_law p e R s m args below meth c 0 0 Q (756, LL b j, [], SH (lkL k) (exL k), σ) := by
  obtain ⟨F, T, bg, w, n, man, ps, S, hR⟩ := hr
  have hR0 := hR
  obtain ⟨⟨o1, o2, o3, o4⟩, ⟨c1, c2, c3, c4, c5⟩, ⟨r1, r2, r3, r4⟩, e1⟩ := hR0
  have hX := h.1
  have ok := mOkP_law
  have hLn := h.2.2.2.1
  refine mJ_run hX (n := 400) ok rfl ?_
  refine mJ_callC h hk rfl (by omega) (x_takeBack (d := 0) o1 c1 c4 o3.1) (fun σ1 h1 => ?_)
  have Rr := rL_hi (fun i _ _ => h1.1 i (by omega)) ⟨r1, r2, r3, r4⟩
  refine mJ_run hX (n := 400) ok rfl ?_
  refine mJ_callC h hk rfl (by omega) (y_takeBack (d := 0) o1 Rr.1 Rr.2.2.1 o3.1) (fun σ2 h2 => ?_)
  refine mJ_if hX ok rfl (fun hc => ?_) (fun hc => ?_)
  · by_cases hq : bg = true ∧ 0 < n
    · rw [if_pos hq] at h1 h2
      obtain ⟨C, -, E⟩ := R0_dx hR h1.1 h1.2
      exact K k _ hk (R0_dy C Rr E h2.1.1 (h2.1.2.wide (by decide)) h2.2.1 h2.2.2 (oK.dlg ⟨o1, o2, o3, o4⟩ (dOk_back o3))).rel
    · rw [if_neg hq] at h1 h2
      obtain ⟨C, -, E⟩ := R0_dx hR h1.1 h1.2
      exact K k _ hk (R0_dy C Rr E h2.1.1 (h2.1.2.wide (by decide)) h2.2.1 h2.2.2 ⟨o1, o2, o3, o4⟩).rel
  · exact absurd rfl hc
theorem l_replay (h : lX g p R s m args meth c b Ln xs) {k j : Nat} {σ : mHp} (hk : k ≤ 7) (hj : j + 6 ≤ Ln) (hr : Rel σ) (K : lK g l p e R s m args below meth c Q b j) : mJ g l md_law p e R s m args below meth c 0 0 Q (1107, LL b j, [], SH (lkL k) (exL k), σ) := by
  obtain ⟨F, T, bg, w, n, man, ps, S, hR⟩ := hr
  have hR0 := hR
  obtain ⟨⟨o1, o2, o3, o4⟩, ⟨c1, c2, c3, c4, c5⟩, ⟨r1, r2, r3, r4⟩, e1⟩ := hR0
  have hX := h.1
  have ok := mOkP_law
  have hLn := h.2.2.2.1
  refine mJ_run hX (n := 400) ok rfl ?_
  refine mJ_sld h rfl (show nI j + nI 1 = nI (j + 1) from nI_add ..) (by omega) ?_
  refine mJ_run hX (n := 400) ok rfl ?_
  refine mJ_sld h rfl (show nI j + nI 2 = nI (j + 2) from nI_add ..) (by omega) ?_
  refine mJ_run hX (n := 400) ok rfl ?_
  refine mJ_sld h rfl (show nI j + nI 3 = nI (j + 3) from nI_add ..) (by omega) ?_
  refine mJ_run hX (n := 400) ok rfl ?_
  refine mJ_callC h hk rfl (by omega) (u_replay (d := 0) o1 c1 o4 c5 c4 (xs (j + 1)) (xs (j + 2)) (xs (j + 3))) (fun σ1 h1 => ?_)
  obtain ⟨C, Rr, E⟩ := R0_dx hR h1.1 h1.2
  rw [rp_eq (F := F) o4 e1 (h1.1 64 (by omega)).2.1 (xs (j + 1)) (xs (j + 2)) (xs (j + 3))] at C ⊢
  refine mJ_run hX (n := 400) ok rfl ?_
  refine mJ_sld h rfl (show nI j + nI 1 = nI (j + 1) from nI_add ..) (by omega) ?_
  refine mJ_run hX (n := 400) ok rfl ?_
  refine mJ_sld h rfl (show nI j + nI 2 = nI (j + 2) from nI_add ..) (by omega) ?_
  refine mJ_run hX (n := 400) ok rfl ?_
  refine mJ_sld h rfl (show nI j + nI 3 = nI (j + 3) from nI_add ..) (by omega) ?_
  refine mJ_run hX (n := 400) ok rfl ?_
  refine mJ_callC h hk rfl (by omega) (y_replayq (d := 0) o1 Rr.1 o4 Rr.2.2.2 Rr.2.2.1 (xs (j + 1)) (xs (j + 2)) (xs (j + 3))) (fun σ2 h2 => ?_)
  refine mJ_if hX ok rfl (fun hc => ?_) (fun hc => ?_)
  · exact K k _ hk (R0_dy C Rr E h2.1.1 (h2.1.2.wide (by decide)) h2.2.1 h2.2.2 (oK.dlg ⟨o1, o2, o3, o4⟩ (rp_dOk o1 o3 _ _ _ _))).rel
  · exact absurd rfl hc
theorem l_reset (h : lX g p R s m args meth c b Ln xs) {k j : Nat} {σ : mHp} (hk : k ≤ 7) (hj : j + 6 ≤ Ln) (hr : Rel σ) (K : lK g l p e R s m args below meth c Q b j) : mJ g l md_law p e R s m args below meth c 0 0 Q (184, LL b j, [], SH (lkL k) (exL k), σ) := by
  obtain ⟨F, T, bg, w, n, man, ps, S, hR⟩ := hr
  have hR0 := hR
  obtain ⟨⟨o1, o2, o3, o4⟩, ⟨c1, c2, c3, c4, c5⟩, ⟨r1, r2, r3, r4⟩, e1⟩ := hR0
  have hX := h.1
  have ok := mOkP_law
  have hLn := h.2.2.2.1
  refine mJ_run hX (n := 400) ok rfl ?_
  refine mJ_callC h hk rfl (by omega) (x_reset (d := 0) o1 c1) (fun σ1 h1 => ?_)
  have Rr := rL_hi (fun i _ _ => (show fr 1 16 σ σ1 by rw [h1]; exact (((fr.refl.WI (by omega) (by omega)).WI (by omega) (by omega)).WI (by omega) (by omega)).WI (by omega) (by omega)) i (by omega)) ⟨r1, r2, r3, r4⟩
  refine mJ_run hX (n := 400) ok rfl ?_
  refine mJ_callC h hk rfl (by omega) (y_reset (d := 0) Rr.1) (fun σ2 h2 => ?_)
  refine mJ_if hX ok rfl (fun hc => ?_) (fun hc => ?_)
  · exact K k _ hk (rs_R hR h1 h2).rel
  · exact absurd rfl hc
theorem l_allocate (h : lX g p R s m args meth c b Ln xs) {k j : Nat} {σ : mHp} (hk : k ≤ 7) (hj : j + 6 ≤ Ln) (hr : Rel σ) (K : lK g l p e R s m args below meth c Q b j) : mJ g l md_law p e R s m args below meth c 0 0 Q (818, LL b j, [], SH (lkL k) (exL k), σ) := by
  obtain ⟨F, T, bg, w, n, man, ps, S, hR⟩ := hr
  have hR0 := hR
  obtain ⟨⟨o1, o2, o3, o4⟩, ⟨c1, c2, c3, c4, c5⟩, ⟨r1, r2, r3, r4⟩, e1⟩ := hR0
  have hX := h.1
  have ok := mOkP_law
  have hLn := h.2.2.2.1
  refine mJ_run hX (n := 400) ok rfl ?_
  refine mJ_sld h rfl (show nI j + nI 1 = nI (j + 1) from nI_add ..) (by omega) ?_
  refine mJ_run hX (n := 400) ok rfl ?_
  refine mJ_sld h rfl (show nI j + nI 2 = nI (j + 2) from nI_add ..) (by omega) ?_
  refine mJ_run hX (n := 400) ok rfl ?_
  refine mJ_sld h rfl (show nI j + nI 3 = nI (j + 3) from nI_add ..) (by omega) ?_
  refine mJ_run hX (n := 400) ok rfl ?_
  refine mJ_callC h hk rfl (by omega) (u_allocate (d := 0) (xs (j + 1)) (xs (j + 2)) (xs (j + 3))) (fun σ1 h1 => ?_)
  refine mJ_run hX (n := 400) ok rfl ?_
  refine mJ_sld h rfl (show nI j + nI 1 = nI (j + 1) from nI_add ..) (by omega) ?_
  refine mJ_run hX (n := 400) ok rfl ?_
  refine mJ_sld h rfl (show nI j + nI 2 = nI (j + 2) from nI_add ..) (by omega) ?_
  refine mJ_run hX (n := 400) ok rfl ?_
  refine mJ_sld h rfl (show nI j + nI 3 = nI (j + 3) from nI_add ..) (by omega) ?_
  refine mJ_run hX (n := 400) ok rfl ?_
  refine mJ_callC h hk rfl (by omega) (y_allocate (d := 0) (xs (j + 1)) (xs (j + 2)) (xs (j + 3))) (fun σ2 h2 => ?_)
  refine mJ_if hX ok rfl (fun hc => ?_) (fun hc => ?_)
  · rcases h1 with ⟨q, hq, es, ⟨t1, t2⟩, z1, z2, hA⟩ | ⟨no, e0⟩
    · rcases h2 with ⟨q2, hq2, es2, -, -, -, hB⟩ | ⟨no, -⟩
      · have eq : q = q2 := nI_t (es.symm.trans es2) hq hq2
        subst eq
        obtain ⟨t, ht, et⟩ := (i_in (n := 4) (by omega)).mp ⟨t1, (i_le1 (n := 4) (by omega) (by omega)).mp t2⟩
        obtain ⟨z, hz, ez⟩ := (i_in (n := 41) (by omega)).mp ⟨z2, (i_le1 (n := 41) (by omega) (by omega)).mp z1⟩
        rw [et, ez] at hA hB
        exact K k _ hk (al_R hR hq ht (by omega) hA hB).rel
      · exact absurd ⟨⟨sl_in.mpr ⟨q, hq, es⟩, ⟨t1, t2⟩, z1⟩, z2⟩ no
    · rcases h2 with ⟨q2, hq2, es2, tt, z1, z2, -⟩ | ⟨-, e2⟩
      · exact absurd ⟨⟨sl_in.mpr ⟨q2, hq2, es2⟩, tt, z1⟩, z2⟩ no
      · rw [e2, e0]
        exact K k _ hk hR.rel
  · exact absurd rfl hc
theorem l_release (h : lX g p R s m args meth c b Ln xs) {k j : Nat} {σ : mHp} (hk : k ≤ 7) (hj : j + 6 ≤ Ln) (hr : Rel σ) (K : lK g l p e R s m args below meth c Q b j) : mJ g l md_law p e R s m args below meth c 0 0 Q (861, LL b j, [], SH (lkL k) (exL k), σ) := by
  obtain ⟨F, T, bg, w, n, man, ps, S, hR⟩ := hr
  have hR0 := hR
  obtain ⟨⟨o1, o2, o3, o4⟩, ⟨c1, c2, c3, c4, c5⟩, ⟨r1, r2, r3, r4⟩, e1⟩ := hR0
  have hX := h.1
  have ok := mOkP_law
  have hLn := h.2.2.2.1
  refine mJ_run hX (n := 400) ok rfl ?_
  refine mJ_sld h rfl (show nI j + nI 1 = nI (j + 1) from nI_add ..) (by omega) ?_
  refine mJ_run hX (n := 400) ok rfl ?_
  refine mJ_callC h hk rfl (by omega) (u_release (d := 0) c5 (xs (j + 1))) (fun σ1 h1 => ?_)
  have f1 : fr 32 48 σ σ1 := by
    rcases h1 with ⟨q, hq, es, hA⟩ | ⟨no, e0⟩
    · rw [hA]; exact (fr.refl.WI (by omega) (by omega)).WI (by omega) (by omega)
    · rw [e0]; exact fr.refl
  have Rr := rL_hi (fun i _ _ => f1 i (by omega)) ⟨r1, r2, r3, r4⟩
  refine mJ_run hX (n := 400) ok rfl ?_
  refine mJ_sld h rfl (show nI j + nI 1 = nI (j + 1) from nI_add ..) (by omega) ?_
  refine mJ_run hX (n := 400) ok rfl ?_
  refine mJ_callC h hk rfl (by omega) (y_release (d := 0) o4 Rr.2.2.2 (xs (j + 1))) (fun σ2 h2 => ?_)
  refine mJ_if hX ok rfl (fun hc => ?_) (fun hc => ?_)
  · rcases h1 with ⟨q, hq, es, hA⟩ | ⟨no, e0⟩
    · rcases h2 with ⟨q2, hq2, es2, hB⟩ | ⟨no, -⟩
      · have eq : q = q2 := nI_t (es.symm.trans es2) hq hq2
        subst eq
        exact K k _ hk (rl_R hR hq hA hB).rel
      · exact absurd (sl_in.mpr ⟨q, hq, es⟩) no
    · rcases h2 with ⟨q2, hq2, es2, -⟩ | ⟨-, e2⟩
      · exact absurd (sl_in.mpr ⟨q2, hq2, es2⟩) no
      · rw [e2, e0]
        exact K k _ hk hR.rel
  · exact absurd rfl hc
theorem l_putElement (h : lX g p R s m args meth c b Ln xs) {k j : Nat} {σ : mHp} (hk : k ≤ 7) (hj : j + 6 ≤ Ln) (hr : Rel σ) (K : lK g l p e R s m args below meth c Q b j) : mJ g l md_law p e R s m args below meth c 0 0 Q (884, LL b j, [], SH (lkL k) (exL k), σ) := by
  obtain ⟨F, T, bg, w, n, man, ps, S, hR⟩ := hr
  have hR0 := hR
  obtain ⟨⟨o1, o2, o3, o4⟩, ⟨c1, c2, c3, c4, c5⟩, ⟨r1, r2, r3, r4⟩, e1⟩ := hR0
  have hX := h.1
  have ok := mOkP_law
  have hLn := h.2.2.2.1
  refine mJ_run hX (n := 400) ok rfl ?_
  refine mJ_sld h rfl (show nI j + nI 1 = nI (j + 1) from nI_add ..) (by omega) ?_
  refine mJ_run hX (n := 400) ok rfl ?_
  refine mJ_sld h rfl (show nI j + nI 2 = nI (j + 2) from nI_add ..) (by omega) ?_
  refine mJ_run hX (n := 400) ok rfl ?_
  refine mJ_sld h rfl (show nI j + nI 3 = nI (j + 3) from nI_add ..) (by omega) ?_
  refine mJ_run hX (n := 400) ok rfl ?_
  refine mJ_sld h rfl (show nI j + nI 4 = nI (j + 4) from nI_add ..) (by omega) ?_
  refine mJ_run hX (n := 400) ok rfl ?_
  generalize hv : (_ ||| _ : Int64) = v
  refine mJ_callC h hk rfl (by omega) (u_putElement (d := 0) o4 c5 (xs (j + 1)) (xs (j + 2)) v) (fun σ1 h1 => ?_)
  have f1 : fr 32 48 σ σ1 := by
    rcases h1 with ⟨q, t, a, hq, es, ht, hS, ei, ha, hA⟩ | ⟨no, e0⟩
    · exact hA.1.wide (by omega) (by omega)
    · rw [e0]; exact fr.refl
  have Rr := rL_hi (fun i _ _ => f1 i (by omega)) ⟨r1, r2, r3, r4⟩
  refine mJ_run hX (n := 400) ok rfl ?_
  refine mJ_sld h rfl (show nI j + nI 1 = nI (j + 1) from nI_add ..) (by omega) ?_
  refine mJ_run hX (n := 400) ok rfl ?_
  refine mJ_sld h rfl (show nI j + nI 2 = nI (j + 2) from nI_add ..) (by omega) ?_
  refine mJ_run hX (n := 400) ok rfl ?_
  refine mJ_sld h rfl (show nI j + nI 3 = nI (j + 3) from nI_add ..) (by omega) ?_
  refine mJ_run hX (n := 400) ok rfl ?_
  refine mJ_sld h rfl (show nI j + nI 4 = nI (j + 4) from nI_add ..) (by omega) ?_
  refine mJ_run hX (n := 400) ok rfl ?_
  rw [hv]
  refine mJ_callC h hk rfl (by omega) (y_putElement (d := 0) o4 Rr.2.2.2 (xs (j + 1)) (xs (j + 2)) v) (fun σ2 h2 => ?_)
  refine mJ_if hX ok rfl (fun hc => ?_) (fun hc => ?_)
  · rcases h1 with ⟨q, t, a, hq, es, ht, hS, ei, ha, hA⟩ | ⟨no, e0⟩
    · rcases h2 with ⟨q2, t2, a2, hq2, es2, ht2, hS2, ei2, ha2, hB⟩ | ⟨no, -⟩
      · have eq : q = q2 := nI_t (es.symm.trans es2) hq hq2
        subst eq
        have et : t = t2 := nI_t (hS.symm.trans hS2) ht ht2
        subst et
        have h40 := (o4 q hq).1
        have ea : a = a2 := (nI_eq (by omega) (by omega)).mp (ei.symm.trans ei2)
        subst ea
        exact K k _ hk (pt_R hR hq ht hS ha hA hB).rel
      · exact absurd (qPut_1 o4 hq es ht hS ei ha) no
    · rcases h2 with ⟨q2, t2, a2, hq2, es2, ht2, hS2, ei2, ha2, hB⟩ | ⟨-, e2⟩
      · exact absurd (qPut_1 o4 hq2 es2 ht2 hS2 ei2 ha2) no
      · rw [e2, e0]
        exact K k _ hk hR.rel
  · exact absurd rfl hc
theorem l_compute (h : lX g p R s m args meth c b Ln xs) {k j : Nat} {σ : mHp} (hk : k ≤ 7) (hj : j + 6 ≤ Ln) (hr : Rel σ) (K : lK g l p e R s m args below meth c Q b j) : mJ g l md_law p e R s m args below meth c 0 0 Q (991, LL b j, [], SH (lkL k) (exL k), σ) := by
  obtain ⟨F, T, bg, w, n, man, ps, S, hR⟩ := hr
  have hR0 := hR
  obtain ⟨⟨o1, o2, o3, o4⟩, ⟨c1, c2, c3, c4, c5⟩, ⟨r1, r2, r3, r4⟩, e1⟩ := hR0
  have hX := h.1
  have ok := mOkP_law
  have hLn := h.2.2.2.1
  refine mJ_run hX (n := 400) ok rfl ?_
  refine mJ_sld h rfl (show nI j + nI 1 = nI (j + 1) from nI_add ..) (by omega) ?_
  refine mJ_run hX (n := 400) ok rfl ?_
  refine mJ_sld h rfl (show nI j + nI 2 = nI (j + 2) from nI_add ..) (by omega) ?_
  refine mJ_run hX (n := 400) ok rfl ?_
  refine mJ_sld h rfl (show nI j + nI 3 = nI (j + 3) from nI_add ..) (by omega) ?_
  refine mJ_run hX (n := 400) ok rfl ?_
  refine mJ_sld h rfl (show nI j + nI 4 = nI (j + 4) from nI_add ..) (by omega) ?_
  refine mJ_run hX (n := 400) ok rfl ?_
  refine mJ_callC h hk rfl (by omega) (u_compute (d := 0) o4 c5 (xE_of e1) (xs (j + 1)) (xs (j + 2)) (xs (j + 3)) (xs (j + 4))) (fun σ1 h1 => ?_)
  have f1 : fr 32 48 σ σ1 := by
    rcases h1 with ⟨q, t, a, hq, es, ht, ho, hS, ei, ha, hA⟩ | ⟨no, e0⟩
    · exact hA.1.wide (by omega) (by omega)
    · rw [e0]; exact fr.refl
  have Rr := rL_hi (fun i _ _ => f1 i (by omega)) ⟨r1, r2, r3, r4⟩
  refine mJ_run hX (n := 400) ok rfl ?_
  refine mJ_sld h rfl (show nI j + nI 1 = nI (j + 1) from nI_add ..) (by omega) ?_
  refine mJ_run hX (n := 400) ok rfl ?_
  refine mJ_sld h rfl (show nI j + nI 2 = nI (j + 2) from nI_add ..) (by omega) ?_
  refine mJ_run hX (n := 400) ok rfl ?_
  refine mJ_sld h rfl (show nI j + nI 3 = nI (j + 3) from nI_add ..) (by omega) ?_
  refine mJ_run hX (n := 400) ok rfl ?_
  refine mJ_sld h rfl (show nI j + nI 4 = nI (j + 4) from nI_add ..) (by omega) ?_
  refine mJ_run hX (n := 400) ok rfl ?_
  refine mJ_callD h.1 ok rfl rfl (d1 := 2) (by have := h.2.2.2.2.1; omega) (by have := h.2.2.2.2.2.1; omega) (h.room k hk).1 (h.room k hk).2 (y_compute (d := 0) o4 Rr.2.2.2 (xs (j + 1)) (xs (j + 2)) (xs (j + 3)) (xs (j + 4))) (fun v σ2 h2 => ?_)
  obtain ⟨rfl, h2⟩ := h2
  refine mJ_if hX ok rfl (fun hc => ?_) (fun hc => ?_)
  · rcases h1 with ⟨q, t, a, hq, es, ht, ho, hS, ei, ha, hA⟩ | ⟨no, e0⟩
    · rcases h2 with ⟨q2, t2, a2, y1, hq2, es2, ht2, ho2, hS2, ei2, ha2, hy, hB⟩ | ⟨no, -⟩
      · have eq : q = q2 := nI_t (es.symm.trans es2) hq hq2
        subst eq
        have et : t = t2 := nI_t (hS.symm.trans hS2) (by omega) (by omega)
        subst et
        have h40 := (o4 q hq).1
        have ea : a = a2 := (nI_eq (by omega) (by omega)).mp (ei.symm.trans ei2)
        subst ea
        exact K k _ hk (op_R hR hq ht ho hS ha hA hy hB).rel
      · exact absurd (qCmp_1 o4 hq es ht ho hS ei ha) no
    · rcases h2 with ⟨q2, t2, a2, y1, hq2, es2, ht2, ho2, hS2, ei2, ha2, hy, hB⟩ | ⟨-, e2⟩
      · exact absurd (qCmp_1 o4 hq2 es2 ht2 ho2 hS2 ei2 ha2) no
      · rw [e2, e0]
        exact K k _ hk hR.rel
  · exact absurd rfl hc
theorem l_copyElements (h : lX g p R s m args meth c b Ln xs) {k j : Nat} {σ : mHp} (hk : k ≤ 7) (hj : j + 6 ≤ Ln) (hr : Rel σ) (K : lK g l p e R s m args below meth c Q b j) : mJ g l md_law p e R s m args below meth c 0 0 Q (1044, LL b j, [], SH (lkL k) (exL k), σ) := by
  obtain ⟨F, T, bg, w, n, man, ps, S, hR⟩ := hr
  have hR0 := hR
  obtain ⟨⟨o1, o2, o3, o4⟩, ⟨c1, c2, c3, c4, c5⟩, ⟨r1, r2, r3, r4⟩, e1⟩ := hR0
  have hX := h.1
  have ok := mOkP_law
  have hLn := h.2.2.2.1
  refine mJ_run hX (n := 400) ok rfl ?_
  refine mJ_sld h rfl (show nI j + nI 1 = nI (j + 1) from nI_add ..) (by omega) ?_
  refine mJ_run hX (n := 400) ok rfl ?_
  refine mJ_sld h rfl (show nI j + nI 2 = nI (j + 2) from nI_add ..) (by omega) ?_
  refine mJ_run hX (n := 400) ok rfl ?_
  refine mJ_sld h rfl (show nI j + nI 3 = nI (j + 3) from nI_add ..) (by omega) ?_
  refine mJ_run hX (n := 400) ok rfl ?_
  refine mJ_sld h rfl (show nI j + nI 4 = nI (j + 4) from nI_add ..) (by omega) ?_
  refine mJ_run hX (n := 400) ok rfl ?_
  refine mJ_sld h rfl (show nI j + nI 5 = nI (j + 5) from nI_add ..) (by omega) ?_
  refine mJ_run hX (n := 400) ok rfl ?_
  refine mJ_callC h hk rfl (by omega) (u_copyElements (d := 0) o4 c5 (xs (j + 1)) (xs (j + 2)) (xs (j + 3)) (xs (j + 4)) (xs (j + 5))) (fun σ1 h1 => ?_)
  have f1 : fr 32 48 σ σ1 := by
    rcases h1 with ⟨q, q2, a, a2, n2, hq, hq2, -, -, -, -, -, -, -, -, -, hA⟩ | ⟨no, e0⟩
    · exact hA.1.wide (by omega) (by omega)
    · rw [e0]; exact fr.refl
  have Rr := rL_hi (fun i _ _ => f1 i (by omega)) ⟨r1, r2, r3, r4⟩
  refine mJ_run hX (n := 400) ok rfl ?_
  refine mJ_sld h rfl (show nI j + nI 1 = nI (j + 1) from nI_add ..) (by omega) ?_
  refine mJ_run hX (n := 400) ok rfl ?_
  refine mJ_sld h rfl (show nI j + nI 2 = nI (j + 2) from nI_add ..) (by omega) ?_
  refine mJ_run hX (n := 400) ok rfl ?_
  refine mJ_sld h rfl (show nI j + nI 3 = nI (j + 3) from nI_add ..) (by omega) ?_
  refine mJ_run hX (n := 400) ok rfl ?_
  refine mJ_sld h rfl (show nI j + nI 4 = nI (j + 4) from nI_add ..) (by omega) ?_
  refine mJ_run hX (n := 400) ok rfl ?_
  refine mJ_sld h rfl (show nI j + nI 5 = nI (j + 5) from nI_add ..) (by omega) ?_
  refine mJ_run hX (n := 400) ok rfl ?_
  refine mJ_callC h hk rfl (by omega) (y_copyElements (d := 0) o4 Rr.2.2.2 (xs (j + 1)) (xs (j + 2)) (xs (j + 3)) (xs (j + 4)) (xs (j + 5))) (fun σ2 h2 => ?_)
  refine mJ_if hX ok rfl (fun hc => ?_) (fun hc => ?_)
  · rcases h1 with ⟨q, q2, a, a2, n2, hq, hq2, es, eu, ei, ej, ec, g1, g2, g3, g4, hA⟩ | ⟨no, e0⟩
    · rcases h2 with ⟨p1, p2, x1, x2, n3, hp1, hp2, es2, eu2, ei2, ej2, ec2, i1, i2, -, -, hB⟩ | ⟨no, -⟩
      · have e3 : q = p1 := nI_t (es.symm.trans es2) hq hp1
        subst e3
        have e4 : q2 = p2 := nI_t (eu.symm.trans eu2) hq2 hp2
        subst e4
        have h40 := (o4 q hq).1
        have h41 := (o4 q2 hq2).1
        have e5 : a = x1 := (nI_eq (by omega) (by omega)).mp (ei.symm.trans ei2)
        have e6 : a2 = x2 := (nI_eq (by omega) (by omega)).mp (ej.symm.trans ej2)
        have e7 : n2 = n3 := (nI_eq (by omega) (by omega)).mp (ec.symm.trans ec2)
        subst e5
        subst e6
        subst e7
        exact K k _ hk (cp_R hR hq hq2 g1 g2 g4 hA hB).rel
      · exact absurd (qCp_in o4 hq hq2 es eu ei ej ec g1 g2 g3 g4) no
    · rcases h2 with ⟨p1, p2, x1, x2, n3, hp1, hp2, es2, eu2, ei2, ej2, ec2, i1, i2, i3, i4, hB⟩ | ⟨-, e2⟩
      · exact absurd (qCp_in o4 hp1 hp2 es2 eu2 ei2 ej2 ec2 i1 i2 i3 i4) no
      · rw [e2, e0]
        exact K k _ hk hR.rel
  · exact absurd rfl hc
end J
