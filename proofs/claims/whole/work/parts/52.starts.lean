/-! the class Search: its starts, what it tells -/
theorem SK_25 (k : Nat) : (SH (lkL k) (exL k))[25]? = some (100, 1024, []) := rfl
section T
variable {g : mG} {l : Launch} {d : Nat} {σ : mHp} {F : aF} {man : Nat} {P : List aP}
/-- cleared: nothing met yet -/
def sC (σ : mHp) (k mn : Nat) : Prop := sP σ [] (fun _ => 0) ∧ lE σ k [] ∧ σ.1 21 11 = 0 ∧ σ.1 28 4 = nI mn
/-- what a search leaves, other than its own things -/
def fO (σ σ1 : mHp) : Prop := ∀ i, i < 68 → ¬ (21 ≤ i ∧ i < 31) → sm3 σ σ1 i
theorem fO.refl {σ : mHp} : fO σ σ := fun _ _ _ => ⟨rfl, rfl, rfl⟩
theorem fO.trans {σ σ1 σ2 : mHp} (h1 : fO σ σ1) (h2 : fO σ1 σ2) : fO σ σ2 := fun i a b => (h1 i a b).trans (h2 i a b)
theorem fO.WI {σ σ1 : mHp} {i j : Nat} {v : Int32} (h : fO σ σ1) (h1 : 21 ≤ i) (h2 : i < 31) : fO σ (mWI σ1 i j v) := fun c a b => by
  obtain ⟨x, y, z⟩ := h c a b
  refine ⟨?_, y, z⟩
  rw [← x]
  funext w
  rw [WI_at, if_neg (by omega)]
theorem fO.WL {σ σ1 : mHp} {i j : Nat} {v : Int64} (h : fO σ σ1) (h1 : 21 ≤ i) (h2 : i < 31) : fO σ (mWL σ1 i j v) := fun c a b => by
  obtain ⟨x, y, z⟩ := h c a b
  refine ⟨x, ?_, z⟩
  rw [← y]
  funext w
  rw [WL_at, if_neg (by omega)]
theorem fO.cf {σ σ1 : mHp} {F : aF} (h : fO σ σ1) (hm : cF σ F) : cF σ1 F := by
  have e : ∀ i, 1 ≤ i → i < 8 → σ1.1 i = σ.1 i := fun i h1 h2 => (h i (by omega) (by omega)).1
  rw [cF, e 1 (by omega) (by omega), e 2 (by omega) (by omega), e 3 (by omega) (by omega), e 4 (by omega) (by omega)]
  exact hm
theorem fO_N {σ σ1 : mHp} (h : frN σ σ1) : fO σ σ1 := fun i a b => h.1 i (by simp; omega)
theorem c_clear {k : Nat} {mn : Nat} : mNV g l (d + 1) 36 [.ref 21, .int (nI mn)] (lkL k) (exL k) σ (fun σ1 => fO σ σ1 ∧ sC σ1 k mn) := by
  have ok : mOkP md_X4_clear := ok_at 36 (by decide) rfl
  refine mC_of (md := md_X4_clear) rfl (lt_at (by decide)) rfl ?_
  refine mGo_run (n := 400) ok rfl ?_
  refine mGo_callV ok rfl (by omega) (c_fillI (d := d) (SK_25 k) (by omega) (by omega) 0) (fun σ1 hσ1 => ?_)
  have f1 : fO σ σ1 := fun i a b => by
    rw [hσ1]
    refine ⟨?_, rfl, rfl⟩
    show (if i = 25 then _ else σ.1 i) = σ.1 i
    rw [if_neg (by omega)]
  have z1 : ∀ y, y < 1024 → σ1.1 25 y = 0 := fun y hy => by
    rw [hσ1]
    show (if (25 : Nat) = 25 then (fun j => if j < 1024 then (0 : Int32) else σ.1 25 j) else σ.1 25) y = 0
    rw [if_pos rfl]
    show (if y < 1024 then (0 : Int32) else σ.1 25 y) = 0
    rw [if_pos hy]
  refine mGo_run (n := 400) ok rfl ?_
  refine mGo_side ok rfl (Or.inl rfl) ?_
  refine mGo_run (n := 400) ok rfl ?_
  have e : ∀ c, c ≠ 21 → c ≠ 28 → (mWI (mWI (mWI (mWI σ1 28 4 (nI mn)) 21 10 0) 21 8 0) 21 11 0).1 c = σ1.1 c := fun c h1 h2 => by
    funext z
    rw [WI_at, if_neg (fun y => h1 y.1), WI_at, if_neg (fun y => h1 y.1), WI_at, if_neg (fun y => h1 y.1), WI_at, if_neg (fun y => h2 y.1)]
  refine mGo_ret ok rfl trivial ⟨rfl, rfl, (((f1.WI (by decide) (by decide)).WI (by decide) (by decide)).WI (by decide) (by decide)).WI (by decide) (by decide), ⟨?_, fun i p hp => by simp at hp, ?_⟩, ⟨?_, by simp, fun j x hx => by simp at hx⟩, ?_, ?_⟩
  · rw [WI_at, if_neg (by omega), WI_at, if_neg (by omega), WI_at, if_pos ⟨rfl, rfl⟩]; rfl
  · rw [e 25 (by decide) (by decide)]; exact hI_nil z1
  · rw [WI_at, if_neg (by omega), WI_at, if_pos ⟨rfl, rfl⟩]; rfl
  · rw [WI_at, if_pos ⟨rfl, rfl⟩]
  · rw [WI_at, if_neg (by omega), WI_at, if_neg (by omega), WI_at, if_neg (by omega), WI_at, if_pos ⟨rfl, rfl⟩]
/-- ready to explore from P -/
def sA (σ : mHp) (k mn : Nat) (P : List aP) : Prop := sP σ P (fun _ => 0) ∧ lE σ k [] ∧ σ.1 21 11 = 0 ∧ σ.1 28 4 = nI mn ∧ σ.1 21 9 = nI P.length
theorem lE_9 {σ : mHp} {k : Nat} {E : List Nat} {v : Int32} (h : lE σ k E) : lE (mWI σ 21 9 v) k E := by
  refine ⟨by rw [WI_at, if_neg (by omega)]; exact h.1, h.2.1, fun j x hx => ?_⟩
  rw [WI_at, if_neg (fun z => lkL_ne (k := k) (i := 21) (by decide) (by decide) z.1.symm)]
  exact h.2.2 j x hx
theorem sP_9 {σ : mHp} {P : List aP} {R : Nat → Nat} {v : Int32} (h : sP σ P R) : sP (mWI σ 21 9 v) P R := by
  obtain ⟨c1, c2, c3⟩ := h
  refine ⟨by rw [WI_at, if_neg (by omega)]; exact c1, fun i p hp => ?_, ?_⟩
  · rw [WI_at, if_neg (by omega)]; exact c2 i p hp
  · have : (mWI σ 21 9 v).1 25 = σ.1 25 := by funext z; rw [WI_at, if_neg (by omega)]
    rw [this]; exact c3
theorem c_startFromPosition {k mn : Nat} (p : aP) : mNV g l (d + 2) 35 [.ref 21, .long p.1, .long p.2, .int (nI mn)] (lkL k) (exL k) σ (fun σ1 => fO σ σ1 ∧ sA σ1 k mn [p]) := by
  have ok : mOkP md_X4_startFromPosition := ok_at 35 (by decide) rfl
  refine mC_of (md := md_X4_startFromPosition) rfl (lt_at (by decide)) rfl ?_
  refine mGo_run (n := 400) ok rfl ?_
  refine mGo_callV ok rfl (by omega) (c_clear (d := d) (k := k) (mn := mn)) (fun σ1 hσ1 => ?_)
  obtain ⟨f1, s1, s2, s3, s4⟩ := hσ1
  refine mGo_run (n := 400) ok rfl ?_
  refine mGo_call ok rfl (by omega) (c_numberOf (d := d) s1 nd_nil (by simp) p) (fun r sp σ2 hq => ?_)
  obtain ⟨e1, f2, y1, -⟩ := hq
  subst e1
  have ea : addP [] p = [p] := by simp [addP]
  rw [ea] at y1
  obtain ⟨rfl, z1, z2⟩ := y1 (by simp)
  refine mGo_run (n := 400) ok rfl ?_
  rw [z1.1]
  have f3 := f1.trans (fO_N f2)
  refine mGo_ret ok rfl trivial ⟨rfl, rfl, f3.WI (by decide) (by decide), sP_9 z1, lE_9 (lE_N f2 s2), ?_, ?_, ?_⟩
  · rw [WI_at, if_neg (by omega), z2]; exact s3
  · rw [WI_at, if_neg (by omega), (f2.1 28 (by decide)).1]; exact s4
  · rw [WI_at, if_pos ⟨rfl, rfl⟩]
theorem c_startFromFormula (hf : fOk F) (hc : cF σ F) {k mn f : Nat} (hm1 : mn ≤ 1) (hfn : f < aN F) : mNV g l (d + 3) 34 [.ref 21, .int (nI f), .int (nI mn)] (lkL k) (exL k) σ (fun σ1 => fO σ σ1 ∧ sA σ1 k mn (meets [] (stp F mn f))) := by
  have hn := hf.2.1
  have ha := atk_le (aK F f)
  have ok : mOkP md_X4_startFromFormula := ok_at 34 (by decide) rfl
  refine mC_of (md := md_X4_startFromFormula) rfl (lt_at (by decide)) rfl ?_
  refine mGo_run (n := 400) ok rfl ?_
  refine mGo_callV ok rfl (by omega) (c_clear (d := d) (k := k) (mn := mn)) (fun σ1 hσ1 => ?_)
  obtain ⟨f1, s1, s2, s3, s4⟩ := hσ1
  refine mGo_run (n := 400) ok rfl ?_
  have f2 := (f1.WL (i := 28) (j := 5) (v := 0) (by decide) (by decide)).WL (i := 28) (j := 6) (v := 0) (by decide) (by decide)
  refine mGo_callP ok rfl (by omega) (c_attacksOn (d := d) hf (f2.cf hc) hfn) ?_
  refine mGo_runS 33 (n := 400) ok rfl ?_
  have loop : ∀ m r, r + m = atk (aK F f) → ∀ (τ : mHp) (Q : List aP), fO σ τ → sP τ Q (fun _ => 0) → nd Q → Q.length ≤ r → lE τ k [] → τ.1 21 11 = 0 → τ.1 28 4 = nI mn → τ.2.1 28 5 = 0 → τ.2.1 28 6 = 0 → mGo g l (d + 3) md_X4_startFromFormula (SH (lkL k) (exL k)).length (mTot (SH (lkL k) (exL k))) (33, [some (.ref 21), some (.int (nI f)), some (.int (nI mn)), some (.int (nI (atk (aK F f)))), some (.int (nI r))], [], SH (lkL k) (exL k), τ) (fun r1 sp σ1 => r1 = none ∧ sp = SH (lkL k) (exL k) ∧ (fO σ σ1 ∧ sA σ1 k mn (meets Q ((List.range' r m).map (fun r => atP2 F mn 0 0 f r))))) := by
    intro m
    induction m with
    | zero =>
      intro r hr τ Q t s n1 n2 e x b4 b5 b6
      refine mGo_run (n := 400) ok rfl ?_
      refine mGo_ifI ok rfl (nI_leI (a := atk (aK F f)) (b := r) (by omega) (by omega)) (fun h => ?_) (fun h => ?_)
      · refine mGo_run (n := 400) ok rfl ?_
        rw [s.1]
        refine mGo_ret ok rfl trivial ⟨rfl, rfl, t.WI (by decide) (by decide), sP_9 s, lE_9 e, ?_, ?_, ?_⟩
        · rw [WI_at, if_neg (by omega)]; exact x
        · rw [WI_at, if_neg (by omega)]; exact b4
        · rw [WI_at, if_pos ⟨rfl, rfl⟩]; rfl
      · omega
    | succ m ih =>
      intro r hr τ Q t s n1 n2 e x b4 b5 b6
      have k0 : aK F f ≠ 0 := fun z => by rw [z] at hr; simp [atk] at hr
      refine mGo_run (n := 400) ok rfl ?_
      refine mGo_ifI ok rfl (nI_leI (a := atk (aK F f)) (b := r) (by omega) (by omega)) (fun h => ?_) (fun h => ?_)
      · omega
      · refine mGo_run (n := 400) ok rfl ?_
        refine mGo_callV ok rfl (by omega) (c_attack28 (d := d) hf (t.cf hc) (c := 0) (o := 0) (man := mn) b5 b6 b4 hm1 hfn k0 (r := r) (by omega)) (fun τ1 hτ1 => ?_)
        have t1 : fO σ τ1 := by rw [hτ1]; exact (t.WL (by decide) (by decide)).WL (by decide) (by decide)
        have s1 : sP τ1 Q (fun _ => 0) := by rw [hτ1]; exact sP_A s
        have e1 : lE τ1 k [] := by rw [hτ1]; exact lE_A e
        have x1 : τ1.1 21 11 = 0 := by rw [hτ1]; exact x
        have c4 : τ1.1 28 4 = nI mn := by rw [hτ1]; exact b4
        have c5 : τ1.2.1 28 5 = 0 := by rw [hτ1, WL_at, if_neg (by omega), WL_at, if_neg (by omega)]; exact b5
        have c6 : τ1.2.1 28 6 = 0 := by rw [hτ1, WL_at, if_neg (by omega), WL_at, if_neg (by omega)]; exact b6
        have p1 : τ1.2.1 28 7 = (atP2 F mn 0 0 f r).1 := by rw [hτ1]; simp [WL_at]
        have p2 : τ1.2.1 28 8 = (atP2 F mn 0 0 f r).2 := by rw [hτ1]; simp [WL_at]
        clear hτ1
        refine mGo_run (n := 400) ok rfl ?_
        rw [p1, p2]
        refine mGo_call ok rfl (by omega) (c_numberOf (d := d) s1 n1 (by omega) (atP2 F mn 0 0 f r)) (fun r2 sp2 τ2 hq2 => ?_)
        obtain ⟨e3, f3, y1, -⟩ := hq2
        subst e3
        have hal : (addP Q (atP2 F mn 0 0 f r)).length ≤ r + 1 := by
          unfold addP
          split
          · omega
          · split
            · simp; omega
            · omega
        obtain ⟨rfl, z1, z2⟩ := y1 (by omega)
        refine mGo_runS 33 (n := 400) ok rfl ?_
        rw [nI_1]
        exact ih (r + 1) (by omega) τ2 _ (t1.trans (fO_N f3)) z1 (addP_nd n1 _) hal (lE_N f3 e1) (by rw [z2]; exact x1) (by rw [(f3.1 28 (by decide)).1]; exact c4) (by rw [(f3.1 28 (by decide)).2.1]; exact c5) (by rw [(f3.1 28 (by decide)).2.1]; exact c6)
  have h0 : sP (mWL (mWL σ1 28 5 0) 28 6 0) [] (fun _ => 0) := ⟨s1.1, fun i p hp => by simp at hp, s1.2.2⟩
  have := loop (atk (aK F f)) 0 (by omega) _ [] f2 h0 nd_nil (by simp) s2 s3 s4 (by rw [WL_at, if_neg (by omega), WL_at, if_pos ⟨rfl, rfl⟩]) (by rw [WL_at, if_pos ⟨rfl, rfl⟩])
  rw [← range_r] at this
  exact this
theorem c_highest {k n : Nat} {R : Nat → Nat} (hs : sP σ P R) (hP : P.length ≤ 300) (hR : ∀ i, i < P.length → R i ≤ 400) (h9 : σ.1 21 9 = nI n) (hn : n ≤ P.length) : mNP g l (d + 1) 45 [.ref 21] (lkL k) (exL k) σ (.int (if rbA 0 ((List.range n).map R) = 0 then 0 else nI (rbA 0 ((List.range n).map R) - 1))) := by
  have ok : mOkP md_X4_highestStartRank := ok_at 45 (by decide) rfl
  refine mC_of (md := md_X4_highestStartRank) rfl (lt_at (by decide)) rfl ?_
  refine mGo_runS 4 (n := 400) ok rfl ?_
  have loop : ∀ m r, r + m = n → ∀ a : Nat, a ≤ 400 → mGo g l (d + 1) md_X4_highestStartRank (SH (lkL k) (exL k)).length (mTot (SH (lkL k) (exL k))) (4, [some (.ref 21), some (.int (nI a)), some (.int (nI r))], [], SH (lkL k) (exL k), σ) (fun r1 sp σ1 => r1 = some (.int (if rbA a ((List.range' r m).map R) = 0 then 0 else nI (rbA a ((List.range' r m).map R) - 1))) ∧ sp = SH (lkL k) (exL k) ∧ σ1 = σ) := by
    intro m
    induction m with
    | zero =>
      intro r hr a hal
      refine mGo_run (n := 400) ok rfl ?_
      rw [h9]
      refine mGo_ifI ok rfl (nI_leI (a := n) (b := r) (by omega) (by omega)) (fun h => ?_) (fun h => ?_)
      · refine mGo_run (n := 400) ok rfl ?_
        exact mGo_ret ok rfl trivial (⟨by simp [rbA], rfl, rfl⟩)
      · omega
    | succ m ih =>
      intro r hr a hal
      have hrl : r < P.length := by omega
      have rr := (hs.2.1 r _ (at0_at hrl)).2.2
      have hRr := hR r hrl
      show mGo _ _ _ _ _ _ _ (fun r1 sp σ1 => r1 = some (.int (if (if R r = 0 then 0 else rbA (if a < R r then R r else a) ((List.range' (r + 1) m).map R)) = 0 then 0 else nI ((if R r = 0 then 0 else rbA (if a < R r then R r else a) ((List.range' (r + 1) m).map R)) - 1))) ∧ sp = SH (lkL k) (exL k) ∧ σ1 = σ)
      refine mGo_run (n := 400) ok rfl ?_
      rw [h9]
      refine mGo_ifI ok rfl (nI_leI (a := n) (b := r) (by omega) (by omega)) (fun h => ?_) (fun h => ?_)
      · omega
      · refine mGo_run (n := 400) ok rfl ?_
        refine mGo_side ok rfl (nI_in (by omega) (by omega)) ?_
        rw [nI_clamp (n := r) (by omega), rr]
        refine mGo_ifI ok rfl (nI_eq (a := R r) (b := 0) (by omega) (by omega)) (fun h1 => ?_) (fun h1 => ?_)
        · rw [if_pos h1, if_pos rfl]
          refine mGo_run (n := 400) ok rfl ?_
          exact mGo_ret ok rfl trivial (⟨rfl, rfl, rfl⟩)
        · rw [if_neg h1]
          refine mGo_run (n := 400) ok rfl ?_
          refine mGo_side ok rfl (nI_in (by omega) (by omega)) ?_
          rw [nI_clamp (n := r) (by omega), rr]
          refine mGo_callP ok rfl (by omega) (c_max (d := d) (nI a) (nI (R r))) ?_
          rw [nI_max (by omega) (by omega)]
          refine mGo_runS 4 (n := 400) ok rfl ?_
          rw [nI_1]
          exact ih (r + 1) (by omega) _ (by split <;> omega)
  have := loop n 0 (by omega) 0 (by omega)
  rw [← range_r] at this
  exact this
theorem c_rankOf {k : Nat} {R : Nat → Nat} (hs : sP σ P R) (hn : nd P) (hP : P.length ≤ 300) {p : aP} (hp : p ∈ P) : mNP g l (d + 1) 46 [.ref 21, .long p.1, .long p.2] (lkL k) (exL k) σ (.int (nI (R (ix P p)))) := by
  have hil := ix_lt hp
  have rr := (hs.2.1 _ _ (ix_at hp)).2.2
  have ok : mOkP md_X4_rankOf := ok_at 46 (by decide) rfl
  refine mC_of (md := md_X4_rankOf) rfl (lt_at (by decide)) rfl ?_
  refine mGo_run (n := 400) ok rfl ?_
  refine mGo_call ok rfl (by omega) (c_placeOf (d := d) hs hn hP p) (fun r sp σ1 hq => ?_)
  obtain ⟨e1, e2, y, hy, e3, hq⟩ := hq
  rw [e1, e2, e3]
  clear e1 e2 e3
  rcases hq with ⟨-, e⟩ | ⟨hno, -⟩
  · refine mGo_run (n := 400) ok rfl ?_
    refine mGo_side ok rfl (nI_in (by omega) (by omega)) ?_
    rw [nI_clamp (n := y) (by omega), e]
    refine mGo_run (n := 400) ok rfl ?_
    rw [nI_pred]
    refine mGo_if ok rfl (fun h => ?_) (fun h => ?_)
    · refine mGo_run (n := 400) ok rfl ?_
      refine mGo_side ok rfl (nI_in (by omega) (by omega)) ?_
      rw [nI_clamp (n := ix P p) (by omega), rr]
      refine mGo_run (n := 400) ok rfl ?_
      exact mGo_ret ok rfl trivial (⟨rfl, rfl, rfl⟩)
    · exact absurd (nI_pos' (by omega)) h
  · exact absurd hp hno
end T
