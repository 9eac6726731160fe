/-! the class Search: a move is linked -/
def sm3 (σ σ1 : mHp) (i : Nat) : Prop := σ1.1 i = σ.1 i ∧ σ1.2.1 i = σ.2.1 i ∧ σ1.2.2 i = σ.2.2 i
theorem sm3.trans {σ σ1 σ2 : mHp} {i : Nat} (h1 : sm3 σ σ1 i) (h2 : sm3 σ1 σ2 i) : sm3 σ σ2 i := ⟨h2.1.trans h1.1, h2.2.1.trans h1.2.1, h2.2.2.trans h1.2.2⟩
def fX (σ σ1 : mHp) : Prop := (∀ i, i < 68 → i ∉ [21, 22, 23, 24, 25, 26, 28] → sm3 σ σ1 i) ∧ (∀ j, j ∉ [8, 10, 11] → σ1.1 21 j = σ.1 21 j) ∧ σ1.1 28 = σ.1 28 ∧ ∀ j, j ∉ [7, 8] → σ1.2.1 28 j = σ.2.1 28 j
theorem fX.refl {σ : mHp} : fX σ σ := ⟨fun _ _ _ => ⟨rfl, rfl, rfl⟩, fun _ _ => rfl, rfl, fun _ _ => rfl⟩
theorem fX.trans {σ σ1 σ2 : mHp} (h1 : fX σ σ1) (h2 : fX σ1 σ2) : fX σ σ2 := ⟨fun i a b => (h1.1 i a b).trans (h2.1 i a b), fun j hj => (h2.2.1 j hj).trans (h1.2.1 j hj), h2.2.2.1.trans h1.2.2.1, fun j hj => (h2.2.2.2 j hj).trans (h1.2.2.2 j hj)⟩
theorem fX_K {σ σ1 : mHp} (h : fK σ σ1) : fX σ σ1 := by
  refine ⟨fun i a b => ?_, fun j hj => ?_, ?_, fun j hj => ?_⟩
  · simp at b; exact h.1 i a (by omega) (by omega)
  · simp at hj; exact h.2 j (by omega)
  · exact (h.1 28 (by decide) (by decide) (by decide)).1
  · rw [(h.1 28 (by decide) (by decide) (by decide)).2.1]
theorem fX_N {σ σ1 : mHp} (h : frN σ σ1) : fX σ σ1 := by
  refine ⟨fun i a b => ?_, fun j hj => ?_, ?_, fun j hj => ?_⟩
  · simp at b; exact h.1 i (by simp; omega)
  · simp at hj; exact h.2 j (by omega) (by omega)
  · exact (h.1 28 (by decide)).1
  · rw [(h.1 28 (by decide)).2.1]
theorem fX_A {σ : mHp} {a b : Int64} : fX σ (mWL (mWL σ 28 7 a) 28 8 b) := by
  refine ⟨fun i h1 h2 => ⟨rfl, ?_, rfl⟩, fun j hj => rfl, rfl, fun j hj => ?_⟩
  · simp at h2
    funext j
    rw [WL_at, if_neg (by omega), WL_at, if_neg (by omega)]
  · simp at hj
    rw [WL_at, if_neg (by omega), WL_at, if_neg (by omega)]
theorem fX.cf {σ σ1 : mHp} {F : aF} (h : fX σ σ1) (hm : cF σ F) : cF σ1 F := by
  have e : ∀ i, 1 ≤ i → i < 8 → σ1.1 i = σ.1 i := fun i h1 h2 => (h.1 i (by omega) (by simp; omega)).1
  rw [cF, e 1 (by omega) (by omega), e 2 (by omega) (by omega), e 3 (by omega) (by omega), e 4 (by omega) (by omega)]
  exact hm
theorem fX.bm {σ σ1 : mHp} {ms : List (Nat × Nat)} (h : fX σ σ1) (hb : bM σ 28 ms) : bM σ1 28 ms := by
  refine ⟨by rw [h.2.2.1]; exact hb.1, fun i q hq => ?_⟩
  rw [(h.1 29 (by decide) (by decide)).1, (h.1 30 (by decide) (by decide)).1]
  exact hb.2 i q hq
theorem lE_N {σ σ1 : mHp} {k : Nat} {E : List Nat} (h : frN σ σ1) (hE : lE σ k E) : lE σ1 k E := by
  refine ⟨by rw [h.2 8 (by decide) (by decide)]; exact hE.1, hE.2.1, fun j x hx => ?_⟩
  have : lkL k ∉ [21, 22, 23, 24, 25] := by unfold lkL; simp; split <;> omega
  rw [(h.1 _ this).1]
  exact hE.2.2 j x hx
theorem lE_A {σ : mHp} {k : Nat} {E : List Nat} {a b : Int64} (hE : lE σ k E) : lE (mWL (mWL σ 28 7 a) 28 8 b) k E := hE
theorem lE_cut {σ : mHp} {k : Nat} {E X : List Nat} (hE : lE σ k (E ++ X)) : lE (mWI σ 21 8 (nI E.length)) k E := by
  refine ⟨by rw [WI_at, if_pos ⟨rfl, rfl⟩], by have := hE.2.1; simp at this; omega, fun j x hx => ?_⟩
  rw [WI_at, if_neg (fun z => lkL_ne (k := k) (i := 21) (by decide) (by decide) z.1.symm)]
  exact hE.2.2 j x (by rw [List.getElem?_append_left (List.getElem?_eq_some_iff.mp hx).1]; exact hx)
theorem sP_K {σ σ1 : mHp} {P : List aP} {R : Nat → Nat} (h : fK σ σ1) (hs : sP σ P R) : sP σ1 P R := by
  obtain ⟨c1, c2, c3⟩ := hs
  refine ⟨by rw [h.2 10 (by decide)]; exact c1, fun i p hp => ?_, by rw [(h.1 25 (by decide) (by decide) (by decide)).1]; exact c3⟩
  rw [(h.1 22 (by decide) (by decide) (by decide)).2.1, (h.1 23 (by decide) (by decide) (by decide)).2.1, (h.1 24 (by decide) (by decide) (by decide)).1]
  exact c2 i p hp
theorem sP_A {σ : mHp} {P : List aP} {R : Nat → Nat} {a b : Int64} (hs : sP σ P R) : sP (mWL (mWL σ 28 7 a) 28 8 b) P R := by
  obtain ⟨c1, c2, c3⟩ := hs
  refine ⟨c1, fun i p hp => ?_, c3⟩
  rw [WL_at, if_neg (by omega), WL_at, if_neg (by omega), WL_at, if_neg (by omega), WL_at, if_neg (by omega)]
  exact c2 i p hp
section G
variable (F : aF) (man : Nat)
/-- the links of a move -/
def mvL (P : List aP) (i : Nat) (p : aP) (q : Nat × Nat) : List Nat := if i ∈ (rps F man p q).map (ix P) then [] else rpN F q :: (rps F man p q).map (ix P)
end G
section T
variable {g : mG} {l : Launch} {d : Nat} {σ : mHp} {F : aF} {man : Nat} {P : List aP}
set_option maxHeartbeats 1000000 in
theorem c_linkMove (hf : fOk F) (hc : cF σ F) {k : Nat} (hk : k ≤ 7) {E : List Nat} (hE : lE σ k E) (hl : E.length + 10 ≤ 200000) (hs : sP σ P (fun _ => 0)) (hn : nd P) (hP : P.length ≤ 300) (hx : σ.1 21 11 = 0) (hman : σ.1 28 4 = nI man) (hm1 : man ≤ 1) {i : Nat} (hi : i < P.length) (b1 : σ.2.1 28 5 = (at0 P i).1) (b2 : σ.2.1 28 6 = (at0 P i).2) (hb : bM σ 28 (mvs F (at0 P i).1 (at0 P i).2)) {m : Nat} {q : Nat × Nat} (hq : (mvs F (at0 P i).1 (at0 P i).2)[m]? = some q) : mC g l (d + 4) 38 [.ref 21, .int (nI i), .int (nI m)] (SK k) σ (fun r sp σ1 => r = none ∧ ∃ k1, k ≤ k1 ∧ k1 ≤ 7 ∧ sp = SK k1 ∧ fX σ σ1 ∧ ((meets P (rps F man (at0 P i) q)).length ≤ 300 → sP σ1 (meets P (rps F man (at0 P i) q)) (fun _ => 0) ∧ σ1.1 21 11 = 0 ∧ lE σ1 k1 (E ++ mvL F man (meets P (rps F man (at0 P i) q)) i (at0 P i) q)) ∧ (300 < (meets P (rps F man (at0 P i) q)).length → σ1.1 21 11 = 1)) := by
  have hml := mvs_len hf (at0 P i).1 (at0 P i).2
  have ho := mvs_at hf hq
  have hr3 := rpN_le F q
  have hmem := List.mem_of_getElem? hq
  show mC g l (d + 4) 38 [.ref 21, .int (nI i), .int (nI m)] (SH (lkL k) (exL k)) σ _
  have ok : mOkP md_X4_linkMove := ok_at 38 (by decide) rfl
  refine mC_of (md := md_X4_linkMove) rfl (lt_at (by decide)) rfl ?_
  refine mGo_run (n := 400) ok rfl ?_
  rw [hE.1]
  refine mGo_callP ok rfl (by omega) (c_repliesTo28 (d := d) hf hc hb (by omega) hq ho) ?_
  refine mGo_run (n := 400) ok rfl ?_
  refine mGo_call ok rfl (by omega) (c_addLink (d := d) hk hE (by omega) (rpN F q)) (fun r sp1 σ1 hq1 => ?_)
  obtain ⟨rfl, k1, k1a, k1b, rfl, g1, g2⟩ := hq1
  have fin : ∀ (k2 : Nat) (τ : mHp) (fl : Bool) (L6 L7 : Option Value), k ≤ k2 → k2 ≤ 7 → fX σ τ → (fl = true → ∃ X, lE τ k2 (E ++ X)) → ((meets P (rps F man (at0 P i) q)).length ≤ 300 → sP τ (meets P (rps F man (at0 P i) q)) (fun _ => 0) ∧ τ.1 21 11 = 0 ∧ lE τ k2 (E ++ rpN F q :: (rps F man (at0 P i) q).map (ix (meets P (rps F man (at0 P i) q)))) ∧ (fl = true ↔ i ∈ (rps F man (at0 P i) q).map (ix (meets P (rps F man (at0 P i) q))))) → (300 < (meets P (rps F man (at0 P i) q)).length → τ.1 21 11 = 1) → mGo g l (d + 4) md_X4_linkMove (SH (lkL k) (exL k)).length (mTot (SH (lkL k) (exL k))) (101, [some (.ref 21), some (.int (nI i)), some (.int (nI m)), some (.int (nI E.length)), some (.int (bI fl)), some (.int (nI (rpN F q))), L6, L7], [], SH (lkL k2) (exL k2), τ) (fun r sp σ1 => r = none ∧ ∃ k1, k ≤ k1 ∧ k1 ≤ 7 ∧ sp = SK k1 ∧ fX σ σ1 ∧ ((meets P (rps F man (at0 P i) q)).length ≤ 300 → sP σ1 (meets P (rps F man (at0 P i) q)) (fun _ => 0) ∧ σ1.1 21 11 = 0 ∧ lE σ1 k1 (E ++ mvL F man (meets P (rps F man (at0 P i) q)) i (at0 P i) q)) ∧ (300 < (meets P (rps F man (at0 P i) q)).length → σ1.1 21 11 = 1)) := by
    intro k2 τ fl L6 L7 ka kb h1 h2 h3 h4
    refine mGo_run (n := 400) ok rfl ?_
    refine mGo_ifI ok rfl (bI_0) (fun h5 => ?_) (fun h5 => ?_)
    · refine mGo_run (n := 400) ok rfl ?_
      refine mGo_ret ok rfl trivial ⟨rfl, k2, ka, kb, rfl, h1, fun z => ?_, h4⟩
      obtain ⟨a1, a2, a3, a4⟩ := h3 z
      refine ⟨a1, a2, ?_⟩
      unfold mvL
      rw [if_neg (fun y => by have := a4.mpr y; rw [h5] at this; cases this)]
      exact a3
    · have h6 : fl = true := by simpa using h5
      obtain ⟨X, hX⟩ := h2 h6
      refine mGo_run (n := 400) ok rfl ?_
      have hfx : fX σ (mWI τ 21 8 (nI E.length)) := by
        refine h1.trans ⟨fun j c1 c2 => ⟨?_, rfl, rfl⟩, fun j hj => ?_, ?_, fun j hj => rfl⟩
        · simp at c2; funext z; rw [WI_at, if_neg (by omega)]
        · simp at hj; rw [WI_at, if_neg (by omega)]
        · funext z; rw [WI_at, if_neg (by omega)]
      refine mGo_ret ok rfl trivial ⟨rfl, k2, ka, kb, rfl, hfx, fun z => ?_, fun z => ?_⟩
      · obtain ⟨⟨a1, a1b, a1c⟩, a2, a3, a4⟩ := h3 z
        refine ⟨⟨by rw [WI_at, if_neg (by omega)]; exact a1, fun j p hp => ?_, ?_⟩, by rw [WI_at, if_neg (by omega)]; exact a2, ?_⟩
        · rw [WI_at, if_neg (by omega)]; exact a1b j p hp
        · have : (mWI τ 21 8 (nI E.length)).1 25 = τ.1 25 := by funext z; rw [WI_at, if_neg (by omega)]
          rw [this]; exact a1c
        · unfold mvL
          rw [if_pos (a4.mp h6), List.append_nil]
          exact lE_cut a3
      · rw [WI_at, if_neg (by omega)]; exact h4 z
  refine mGo_runS 27 (n := 400) ok rfl ?_
  have loop : ∀ mm r, r + mm = rpN F q → ∀ (k2 : Nat) (τ : mHp) (Q : List aP) (fl : Bool) (L7 : Option Value), k ≤ k2 → k2 ≤ 7 → fX σ τ → sP τ Q (fun _ => 0) → nd Q → Q.length ≤ 300 → pfx P Q → τ.1 21 11 = 0 → meets P ((List.range' 0 r).map (fun r => rpP F man (at0 P i).1 (at0 P i).2 q r)) = Q → (∀ x ∈ (List.range' 0 r).map (fun r => rpP F man (at0 P i).1 (at0 P i).2 q r), x ∈ Q) → lE τ k2 (E ++ rpN F q :: ((List.range' 0 r).map (fun r => rpP F man (at0 P i).1 (at0 P i).2 q r)).map (ix Q)) → (fl = true ↔ i ∈ ((List.range' 0 r).map (fun r => rpP F man (at0 P i).1 (at0 P i).2 q r)).map (ix Q)) → mGo g l (d + 4) md_X4_linkMove (SH (lkL k) (exL k)).length (mTot (SH (lkL k) (exL k))) (27, [some (.ref 21), some (.int (nI i)), some (.int (nI m)), some (.int (nI E.length)), some (.int (bI fl)), some (.int (nI (rpN F q))), some (.int (nI r)), L7], [], SH (lkL k2) (exL k2), τ) (fun r sp σ1 => r = none ∧ ∃ k1, k ≤ k1 ∧ k1 ≤ 7 ∧ sp = SK k1 ∧ fX σ σ1 ∧ ((meets P (rps F man (at0 P i) q)).length ≤ 300 → sP σ1 (meets P (rps F man (at0 P i) q)) (fun _ => 0) ∧ σ1.1 21 11 = 0 ∧ lE σ1 k1 (E ++ mvL F man (meets P (rps F man (at0 P i) q)) i (at0 P i) q)) ∧ (300 < (meets P (rps F man (at0 P i) q)).length → σ1.1 21 11 = 1)) := by
    intro mm
    induction mm with
    | zero =>
      intro r hr k2 τ Q fl L7 ka kb t s n1 n2 n3 x1 hQ hin e1 hfl
      have er : (List.range' 0 r).map (fun r => rpP F man (at0 P i).1 (at0 P i).2 q r) = rps F man (at0 P i) q := by rw [← range_r]; unfold rps; rw [show rpN F q = r by omega]
      rw [er] at hQ hin e1 hfl
      subst hQ
      refine mGo_run (n := 400) ok rfl ?_
      refine mGo_ifI ok rfl (nI_leI (a := rpN F q) (b := r) (by omega) (by omega)) (fun h => ?_) (fun h => ?_)
      · exact fin k2 τ fl _ _ ka kb t (fun _ => ⟨_, e1⟩) (fun _ => ⟨s, x1, e1, hfl⟩) (fun z => by omega)
      · omega
    | succ mm ih =>
      intro r hr k2 τ Q fl L7 ka kb t s n1 n2 n3 x1 hQ hin e1 hfl
      have e1l : (E ++ rpN F q :: ((List.range' 0 r).map (fun r => rpP F man (at0 P i).1 (at0 P i).2 q r)).map (ix Q)).length ≤ 199999 := by simp; omega
      have ds1 : (List.range' 0 (r + 1)).map (fun r => rpP F man (at0 P i).1 (at0 P i).2 q r) = (List.range' 0 r).map (fun r => rpP F man (at0 P i).1 (at0 P i).2 q r) ++ [rpP F man (at0 P i).1 (at0 P i).2 q r] := by
        rw [← range_r, ← range_r, List.range_succ, List.map_append]; rfl
      have hfull : meets P (rps F man (at0 P i) q) = meets (addP Q (rpP F man (at0 P i).1 (at0 P i).2 q r)) ((List.range' (r + 1) mm).map (fun r => rpP F man (at0 P i).1 (at0 P i).2 q r)) := by
        have : rps F man (at0 P i) q = (List.range' 0 r).map (fun r => rpP F man (at0 P i).1 (at0 P i).2 q r) ++ (rpP F man (at0 P i).1 (at0 P i).2 q r :: (List.range' (r + 1) mm).map (fun r => rpP F man (at0 P i).1 (at0 P i).2 q r)) := by
          unfold rps
          rw [range_r, show rpN F q = r + (mm + 1) by omega, ← List.range'_append_1, List.map_append, Nat.zero_add]
          rfl
        rw [this, meets_app, hQ]
        rfl
      refine mGo_run (n := 400) ok rfl ?_
      refine mGo_ifI ok rfl (nI_leI (a := rpN F q) (b := r) (by omega) (by omega)) (fun h => ?_) (fun h => ?_)
      · omega
      · refine mGo_run (n := 400) ok rfl ?_
        rw [x1]
        refine mGo_if ok rfl (fun h1 => ?_) (fun h1 => ?_)
        · refine mGo_run (n := 400) ok rfl ?_
          refine mGo_callV ok rfl (by omega) (c_answer28 (d := d) hf (t.cf hc) (c := (at0 P i).1) (o := (at0 P i).2) (man := man) (by rw [t.2.2.2 5 (by decide)]; exact b1) (by rw [t.2.2.2 6 (by decide)]; exact b2) (by rw [t.2.2.1]; exact hman) hm1 (t.bm hb) (by omega) hq ho (r := r) (by omega)) (fun τ1 hτ1 => ?_)
          have t1 : fX σ τ1 := by rw [hτ1]; exact t.trans fX_A
          have s1 : sP τ1 Q (fun _ => 0) := by rw [hτ1]; exact sP_A s
          have e2 := (show lE τ1 k2 _ by rw [hτ1]; exact lE_A e1)
          have x2 : τ1.1 21 11 = 0 := by rw [hτ1]; exact x1
          have p1 : τ1.2.1 28 7 = (rpP F man (at0 P i).1 (at0 P i).2 q r).1 := by rw [hτ1]; simp [WL_at]
          have p2 : τ1.2.1 28 8 = (rpP F man (at0 P i).1 (at0 P i).2 q r).2 := by rw [hτ1]; simp [WL_at]
          clear hτ1
          refine mGo_run (n := 400) ok rfl ?_
          rw [p1, p2]
          refine mGo_call ok rfl (by omega) (c_numberOf (d := d) s1 n1 n2 (rpP F man (at0 P i).1 (at0 P i).2 q r)) (fun r2 sp2 τ2 hq2 => ?_)
          obtain ⟨e3, f2, y1, y2⟩ := hq2
          subst e3
          have t2 := t1.trans (fX_N f2)
          by_cases hlen : (addP Q (rpP F man (at0 P i).1 (at0 P i).2 q r)).length ≤ 300
          · obtain ⟨rfl, s2, x3⟩ := y1 hlen
            have hmx := addP_mem hlen
            have hil := ix_lt hmx
            have e3 := lE_N f2 e2
            refine mGo_run (n := 400) ok rfl ?_
            refine mGo_call ok rfl (by omega) (c_addLink (d := d + 1) kb e3 (by omega) (ix (addP Q (rpP F man (at0 P i).1 (at0 P i).2 q r)) (rpP F man (at0 P i).1 (at0 P i).2 q r))) (fun r3 sp3 τ3 hq3 => ?_)
            obtain ⟨rfl, k3, k3a, k3b, rfl, l3, f3⟩ := hq3
            have hpf := addP_pfx Q (rpP F man (at0 P i).1 (at0 P i).2 q r)
            have mapeq : ((List.range' 0 r).map (fun r => rpP F man (at0 P i).1 (at0 P i).2 q r)).map (ix (addP Q (rpP F man (at0 P i).1 (at0 P i).2 q r))) = ((List.range' 0 r).map (fun r => rpP F man (at0 P i).1 (at0 P i).2 q r)).map (ix Q) := List.map_congr_left (fun x hx => hpf.ix (hin x hx))
            have cont : ∀ fl2 : Bool, (fl2 = true ↔ fl = true ∨ ix (addP Q (rpP F man (at0 P i).1 (at0 P i).2 q r)) (rpP F man (at0 P i).1 (at0 P i).2 q r) = i) → mGo g l (d + 4) md_X4_linkMove (SH (lkL k) (exL k)).length (mTot (SH (lkL k) (exL k))) (27, [some (.ref 21), some (.int (nI i)), some (.int (nI m)), some (.int (nI E.length)), some (.int (bI fl2)), some (.int (nI (rpN F q))), some (.int (nI (r + 1))), some (.int (nI (ix (addP Q (rpP F man (at0 P i).1 (at0 P i).2 q r)) (rpP F man (at0 P i).1 (at0 P i).2 q r))))], [], SH (lkL k3) (exL k3), τ3) (fun r sp σ1 => r = none ∧ ∃ k1, k ≤ k1 ∧ k1 ≤ 7 ∧ sp = SK k1 ∧ fX σ σ1 ∧ ((meets P (rps F man (at0 P i) q)).length ≤ 300 → sP σ1 (meets P (rps F man (at0 P i) q)) (fun _ => 0) ∧ σ1.1 21 11 = 0 ∧ lE σ1 k1 (E ++ mvL F man (meets P (rps F man (at0 P i) q)) i (at0 P i) q)) ∧ (300 < (meets P (rps F man (at0 P i) q)).length → σ1.1 21 11 = 1)) := by
              intro fl2 hf2
              refine ih (r + 1) (by omega) k3 τ3 (addP Q (rpP F man (at0 P i).1 (at0 P i).2 q r)) fl2 _ (by omega) k3b (t2.trans (fX_K f3)) (sP_K f3 s2) (addP_nd n1 _) hlen (n3.trans hpf) (by rw [f3.2 11 (by decide), x3]; exact x2) ?_ ?_ ?_ ?_
              · rw [ds1, meets_app, hQ]; rfl
              · intro x hx
                rw [ds1] at hx
                rcases List.mem_append.mp hx with z | z
                · exact hpf.mem (hin x z)
                · have : x = rpP F man (at0 P i).1 (at0 P i).2 q r := by simpa using z
                  rw [this]; exact hmx
              · rw [ds1, List.map_append, mapeq]
                have := l3
                rw [List.append_assoc] at this
                exact this
              · rw [hf2, ds1, List.map_append, mapeq, List.mem_append, hfl]
                simp only [List.map_cons, List.map_nil, List.mem_singleton]
                constructor
                · rintro (z | z)
                  · exact Or.inl z
                  · exact Or.inr z.symm
                · rintro (z | z)
                  · exact Or.inl z
                  · exact Or.inr z.symm
            refine mGo_run (n := 400) ok rfl ?_
            refine mGo_ifI ok rfl (bI_0) (fun h5 => ?_) (fun h5 => ?_)
            · refine mGo_run (n := 400) ok rfl ?_
              refine mGo_ifI ok rfl (nI_eq (a := ix (addP Q (rpP F man (at0 P i).1 (at0 P i).2 q r)) (rpP F man (at0 P i).1 (at0 P i).2 q r)) (b := i) (by omega) (by omega)) (fun h6 => ?_) (fun h6 => ?_)
              · refine mGo_runS 27 (n := 400) ok rfl ?_
                rw [nI_1]
                exact cont true ⟨fun _ => Or.inr h6, fun _ => rfl⟩
              · refine mGo_runS 27 (n := 400) ok rfl ?_
                rw [nI_1]
                exact cont false ⟨fun z => Bool.noConfusion z, by rintro (z | z); rw [h5] at z; exact z; exact absurd z h6⟩
            · have h7 : fl = true := by simpa using h5
              refine mGo_runS 27 (n := 400) ok rfl ?_
              rw [nI_1]
              exact cont true ⟨fun _ => Or.inl h7, fun _ => rfl⟩
          · obtain ⟨x3, rfl⟩ := y2 (by omega)
            have hfl3 : 300 < (meets P (rps F man (at0 P i) q)).length := by rw [hfull, meets_full _ (by omega)]; omega
            have e3 := lE_N f2 e2
            refine mGo_run (n := 400) ok rfl ?_
            refine mGo_call ok rfl (by omega) (c_addLink (d := d + 1) kb e3 (by omega) 0) (fun r3 sp3 τ3 hq3 => ?_)
            obtain ⟨rfl, k3, k3a, k3b, rfl, l3, f3⟩ := hq3
            have x4 : τ3.1 21 11 = 1 := by rw [f3.2 11 (by decide)]; exact x3
            have cont : ∀ fl2 : Bool, mGo g l (d + 4) md_X4_linkMove (SH (lkL k) (exL k)).length (mTot (SH (lkL k) (exL k))) (27, [some (.ref 21), some (.int (nI i)), some (.int (nI m)), some (.int (nI E.length)), some (.int (bI fl2)), some (.int (nI (rpN F q))), some (.int (nI (r + 1))), some (.int 0)], [], SH (lkL k3) (exL k3), τ3) (fun r sp σ1 => r = none ∧ ∃ k1, k ≤ k1 ∧ k1 ≤ 7 ∧ sp = SK k1 ∧ fX σ σ1 ∧ ((meets P (rps F man (at0 P i) q)).length ≤ 300 → sP σ1 (meets P (rps F man (at0 P i) q)) (fun _ => 0) ∧ σ1.1 21 11 = 0 ∧ lE σ1 k1 (E ++ mvL F man (meets P (rps F man (at0 P i) q)) i (at0 P i) q)) ∧ (300 < (meets P (rps F man (at0 P i) q)).length → σ1.1 21 11 = 1)) := by
              intro fl2
              have l4 := l3
              rw [List.append_assoc] at l4
              have hfin := fin k3 τ3 fl2 (some (.int (nI (r + 1)))) (some (.int 0)) (by omega) k3b (t2.trans (fX_K f3)) (fun _ => ⟨_, l4⟩) (fun z => by omega) (fun _ => x4)
              refine mGo_run (n := 400) ok rfl ?_
              refine mGo_if ok rfl (fun h6 => ?_) (fun h6 => ?_)
              · exact hfin
              · refine mGo_run (n := 400) ok rfl ?_
                rw [x4]
                refine mGo_if ok rfl (fun h7 => ?_) (fun h7 => ?_)
                · exact absurd h7 (by decide)
                · exact hfin
            refine mGo_run (n := 400) ok rfl ?_
            refine mGo_ifI ok rfl (bI_0) (fun h5 => ?_) (fun h5 => ?_)
            · refine mGo_run (n := 400) ok rfl ?_
              refine mGo_if ok rfl (fun h6 => ?_) (fun h6 => ?_)
              · refine mGo_runS 27 (n := 400) ok rfl ?_
                rw [nI_1]
                exact cont true
              · refine mGo_runS 27 (n := 400) ok rfl ?_
                rw [nI_1]
                exact cont false
            · refine mGo_runS 27 (n := 400) ok rfl ?_
              rw [nI_1]
              exact cont true
        · exact absurd rfl h1
  exact loop (rpN F q) 0 (by omega) k1 σ1 P false none k1a k1b (fX_K g2) (sP_K g2 hs) hn hP pfx.refl (by rw [g2.2 11 (by decide)]; exact hx) rfl (fun x hx => by simp at hx) g1 ⟨fun z => Bool.noConfusion z, fun z => by simp at z⟩
end T
