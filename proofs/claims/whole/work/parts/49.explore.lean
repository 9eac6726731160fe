/-! the class Search: all descendants -/
section G
variable (F : aF) (man : Nat)
def enc (P : List aP) (i : Nat) : List Nat := (mvs F (at0 P i).1 (at0 P i).2).flatMap (mvL F man P i (at0 P i))
def ENC (P : List aP) (n : Nat) : List Nat := (List.range n).flatMap (enc F man P)
end G
section G
variable {F : aF} {man : Nat}
theorem mvL_len {P : List aP} {i : Nat} {p : aP} {q : Nat × Nat} : (mvL F man P i p q).length ≤ 4 := by
  have := rpN_le F q
  unfold mvL
  split
  · simp
  · simp [rps]; omega
theorem flat_len {α : Type} {f : α → List Nat} {c : Nat} (h : ∀ a, (f a).length ≤ c) : ∀ t : List α, (t.flatMap f).length ≤ c * t.length := by
  intro t
  induction t with
  | nil => simp
  | cons a t ih =>
    rw [List.flatMap_cons, List.length_append, List.length_cons, Nat.mul_succ]
    have := h a
    omega
theorem enc_len (hf : fOk F) {P : List aP} {i : Nat} : (enc F man P i).length ≤ 448 := by
  have h1 := flat_len (c := 4) (fun q => mvL_len (F := F) (man := man) (P := P) (i := i) (p := at0 P i) (q := q)) (mvs F (at0 P i).1 (at0 P i).2)
  have h2 := mvs_len hf (at0 P i).1 (at0 P i).2
  unfold enc
  omega
theorem ENC_len (hf : fOk F) {P : List aP} (n : Nat) : (ENC F man P n).length ≤ 448 * n := by
  have := flat_len (c := 448) (fun i => enc_len (F := F) (man := man) hf (P := P) (i := i)) (List.range n)
  rw [List.length_range] at this
  exact this
theorem ENC_s {P : List aP} (n : Nat) : ENC F man P (n + 1) = ENC F man P n ++ enc F man P n := by
  unfold ENC
  rw [List.range_succ, List.flatMap_append]
  simp
theorem mvL_pfx {P Q : List aP} (h : pfx P Q) {i : Nat} {p : aP} {q : Nat × Nat} (hx : ∀ x ∈ rps F man p q, x ∈ P) : mvL F man Q i p q = mvL F man P i p q := by
  unfold mvL
  rw [show (rps F man p q).map (ix Q) = (rps F man p q).map (ix P) from List.map_congr_left (fun x h1 => h.ix (hx x h1))]
theorem flat_congr {α : Type} {f g : α → List Nat} : ∀ {t : List α}, (∀ a ∈ t, f a = g a) → t.flatMap f = t.flatMap g := by
  intro t
  induction t with
  | nil => intro _; rfl
  | cons a t ih =>
    intro h
    rw [List.flatMap_cons, List.flatMap_cons, h a List.mem_cons_self, ih (fun b hb => h b (List.mem_cons_of_mem _ hb))]
theorem enc_pfx {P Q : List aP} (h : pfx P Q) {i : Nat} (hi : i < P.length) (hc : clo F man P (at0 P i)) : enc F man Q i = enc F man P i := by
  unfold enc
  rw [at0_pfx h hi]
  exact flat_congr (fun q hq => mvL_pfx h (hc q hq))
theorem ENC_pfx {P Q : List aP} (h : pfx P Q) {n : Nat} (hn : n ≤ P.length) (hc : ∀ j, j < n → clo F man P (at0 P j)) : ENC F man Q n = ENC F man P n := flat_congr (fun i hi => by
  have := List.mem_range.mp hi
  exact enc_pfx h (by omega) (hc i this))
end G
theorem bfs_full {F : aF} {man : Nat} : ∀ (n i : Nat) {P : List aP}, 300 < P.length → bfs F man n i P = P := by
  intro n
  cases n with
  | zero => intro i P h; rfl
  | succ n => intro i P h; simp only [bfs]; rw [if_neg (by omega)]
/-- what a search leaves as it was -/
def fE (σ σ1 : mHp) : Prop := (∀ i, i < 68 → ¬ (21 ≤ i ∧ i < 31) → sm3 σ σ1 i) ∧ σ1.1 21 9 = σ.1 21 9 ∧ σ1.1 28 4 = σ.1 28 4
theorem fE.refl {σ : mHp} : fE σ σ := ⟨fun _ _ _ => ⟨rfl, rfl, rfl⟩, rfl, rfl⟩
theorem fE.trans {σ σ1 σ2 : mHp} (h1 : fE σ σ1) (h2 : fE σ1 σ2) : fE σ σ2 := ⟨fun i a b => (h1.1 i a b).trans (h2.1 i a b), h2.2.1.trans h1.2.1, h2.2.2.trans h1.2.2⟩
theorem fE_X {σ σ1 : mHp} (h : fX σ σ1) : fE σ σ1 := ⟨fun i a b => h.1 i a (by simp; omega), h.2.1 9 (by decide), by rw [h.2.2.1]⟩
theorem fE.cf {σ σ1 : mHp} {F : aF} (h : fE σ σ1) (hm : cF σ F) : cF σ1 F := by
  have e : ∀ i, 1 ≤ i → i < 8 → σ1.1 i = σ.1 i := fun i h1 h2 => (h.1 i (by omega) (by omega)).1
  rw [cF, e 1 (by omega) (by omega), e 2 (by omega) (by omega), e 3 (by omega) (by omega), e 4 (by omega) (by omega)]
  exact hm
/-- the search as it stands: positions, links, where they start -/
def sL (σ : mHp) (F : aF) (man : Nat) (P : List aP) (k n : Nat) : Prop := sP σ P (fun _ => 0) ∧ σ.1 21 11 = 0 ∧ lE σ k (ENC F man P n) ∧ ∀ j, j < n → σ.1 27 j = nI (ENC F man P j).length ∧ σ.1 27 (j + 1) = nI (ENC F man P (j + 1)).length
theorem sP_S {σ σ1 : mHp} {P : List aP} {R : Nat → Nat} (h : fr 27 31 σ σ1) (hs : sP σ P R) : sP σ1 P R := by
  obtain ⟨c1, c2, c3⟩ := hs
  refine ⟨by rw [(h 21 (by omega)).1]; exact c1, fun i p hp => ?_, by rw [(h 25 (by omega)).1]; exact c3⟩
  rw [(h 22 (by omega)).2.1, (h 23 (by omega)).2.1, (h 24 (by omega)).1]
  exact c2 i p hp
theorem lE_S {σ σ1 : mHp} {k : Nat} {E : List Nat} (h : fr 27 31 σ σ1) (hE : lE σ k E) : lE σ1 k E := by
  refine ⟨by rw [(h 21 (by omega)).1]; exact hE.1, hE.2.1, fun j x hx => ?_⟩
  rw [(h (lkL k) (by unfold lkL; split <;> omega)).1]
  exact hE.2.2 j x hx
section T
variable {g : mG} {l : Launch} {d : Nat} {σ : mHp} {F : aF} {man : Nat} {P : List aP}
set_option maxHeartbeats 2000000 in
theorem c_explore (hf : fOk F) (hc : cF σ F) {k : Nat} (hk : k ≤ 7) (hE : lE σ k []) (hs : sP σ P (fun _ => 0)) (hn : nd P) (hP : P.length ≤ 300) (hx : σ.1 21 11 = 0) (hman : σ.1 28 4 = nI man) (hm1 : man ≤ 1) : mC g l (d + 5) 37 [.ref 21] (SK k) σ (fun r sp σ1 => r = some (.int (bI (decide ((gB F man P).length ≤ 300)))) ∧ ∃ k1, k ≤ k1 ∧ k1 ≤ 7 ∧ sp = SK k1 ∧ fE σ σ1 ∧ ((gB F man P).length ≤ 300 → sL σ1 F man (gB F man P) k1 (gB F man P).length)) := by
  show mC g l (d + 5) 37 [.ref 21] (SH (lkL k) (exL k)) σ _
  have ok : mOkP md_X4_explore := ok_at 37 (by decide) rfl
  refine mC_of (md := md_X4_explore) rfl (lt_at (by decide)) rfl ?_
  refine mGo_runS 2 (n := 400) ok rfl ?_
  have exc : ∀ (k1 : Nat) (τ : mHp) (i : Int32) (L2 : Option Value) (B : List aP), k ≤ k1 → k1 ≤ 7 → fE σ τ → τ.1 21 11 = 1 → 300 < B.length → mGo g l (d + 5) md_X4_explore (SH (lkL k) (exL k)).length (mTot (SH (lkL k) (exL k))) (2, [some (.ref 21), some (.int i), L2], [], SH (lkL k1) (exL k1), τ) (fun r sp σ1 => r = some (.int (bI (decide (B.length ≤ 300)))) ∧ ∃ k1, k ≤ k1 ∧ k1 ≤ 7 ∧ sp = SK k1 ∧ fE σ σ1 ∧ (B.length ≤ 300 → sL σ1 F man B k1 B.length)) := by
    intro k1 τ i L2 B ka kb t x hB
    have fin : mGo g l (d + 5) md_X4_explore (SH (lkL k) (exL k)).length (mTot (SH (lkL k) (exL k))) (103, [some (.ref 21), some (.int i), L2], [], SH (lkL k1) (exL k1), τ) (fun r sp σ1 => r = some (.int (bI (decide (B.length ≤ 300)))) ∧ ∃ k1, k ≤ k1 ∧ k1 ≤ 7 ∧ sp = SK k1 ∧ fE σ σ1 ∧ (B.length ≤ 300 → sL σ1 F man B k1 B.length)) := by
      refine mGo_run (n := 400) ok rfl ?_
      rw [x]
      refine mGo_if ok rfl (fun h => ?_) (fun h => ?_)
      · exact absurd h (by decide)
      · refine mGo_run (n := 400) ok rfl ?_
        exact mGo_ret ok rfl (Or.inl rfl) (⟨by rw [decide_eq_false (by omega)]; rfl, k1, ka, kb, rfl, t, fun z => by omega⟩)
    refine mGo_run (n := 400) ok rfl ?_
    refine mGo_if ok rfl (fun h => ?_) (fun h => ?_)
    · exact fin
    · refine mGo_run (n := 400) ok rfl ?_
      refine mGo_if ok rfl (fun h1 => ?_) (fun h1 => ?_)
      · exact fin
      · refine mGo_run (n := 400) ok rfl ?_
        rw [x]
        refine mGo_if ok rfl (fun h2 => ?_) (fun h2 => ?_)
        · exact absurd h2 (by decide)
        · exact fin
  have outer : ∀ n i, i + n = 302 → ∀ (k1 : Nat) (τ : mHp) (Q : List aP) (L2 : Option Value), k ≤ k1 → k1 ≤ 7 → fE σ τ → nd Q → Q.length ≤ 300 → i ≤ Q.length → (∀ j, j < i → clo F man Q (at0 Q j)) → sL τ F man Q k1 i → mGo g l (d + 5) md_X4_explore (SH (lkL k) (exL k)).length (mTot (SH (lkL k) (exL k))) (2, [some (.ref 21), some (.int (nI i)), L2], [], SH (lkL k1) (exL k1), τ) (fun r sp σ1 => r = some (.int (bI (decide ((bfs F man n i Q).length ≤ 300)))) ∧ ∃ k1, k ≤ k1 ∧ k1 ≤ 7 ∧ sp = SK k1 ∧ fE σ σ1 ∧ ((bfs F man n i Q).length ≤ 300 → sL σ1 F man (bfs F man n i Q) k1 (bfs F man n i Q).length)) := by
    intro n
    induction n with
    | zero => intro i hi k1 τ Q L2 ka kb t n1 n2 n3; omega
    | succ n ih =>
      intro i hi k1 τ Q L2 ka kb t n1 n2 n3o hcl hL
      have stop : ¬ (i < Q.length) → mGo g l (d + 5) md_X4_explore (SH (lkL k) (exL k)).length (mTot (SH (lkL k) (exL k))) (103, [some (.ref 21), some (.int (nI i)), L2], [], SH (lkL k1) (exL k1), τ) (fun r sp σ1 => r = some (.int (bI (decide ((bfs F man (n + 1) i Q).length ≤ 300)))) ∧ ∃ k1, k ≤ k1 ∧ k1 ≤ 7 ∧ sp = SK k1 ∧ fE σ σ1 ∧ ((bfs F man (n + 1) i Q).length ≤ 300 → sL σ1 F man (bfs F man (n + 1) i Q) k1 (bfs F man (n + 1) i Q).length)) := by
        intro hx
        have eb : bfs F man (n + 1) i Q = Q := by simp only [bfs]; rw [if_neg (fun z => hx z.1)]
        rw [eb]
        refine mGo_run (n := 400) ok rfl ?_
        rw [hL.2.1]
        refine mGo_if ok rfl (fun h => ?_) (fun h => ?_)
        · refine mGo_run (n := 400) ok rfl ?_
          exact mGo_ret ok rfl (Or.inr rfl) (⟨by rw [decide_eq_true (by omega)]; rfl, k1, ka, kb, rfl, t, fun _ => by rw [show Q.length = i by omega]; exact hL⟩)
        · exact absurd rfl h
      refine mGo_run (n := 400) ok rfl ?_
      refine mGo_ifI ok rfl (nI_leI (a := 300) (b := i) (by omega) (by omega)) (fun h => ?_) (fun h => ?_)
      · exact stop (by omega)
      · refine mGo_run (n := 400) ok rfl ?_
        rw [hL.1.1]
        refine mGo_ifI ok rfl (nI_leI (a := Q.length) (b := i) (by omega) (by omega)) (fun h1 => ?_) (fun h1 => ?_)
        · exact stop (by omega)
        · refine mGo_run (n := 400) ok rfl ?_
          rw [hL.2.1]
          refine mGo_if ok rfl (fun h2 => ?_) (fun h2 => ?_)
          · have hil : i < Q.length := by omega
            have eb : bfs F man (n + 1) i Q = bfs F man n (i + 1) (meets Q (alR F man (at0 Q i))) := by simp only [bfs]; rw [if_pos ⟨by omega, by omega⟩]
            rw [eb]
            have hml := mvs_len hf (at0 Q i).1 (at0 Q i).2
            obtain ⟨s1, s2, s3⟩ := hL.1.2.1 i _ (at0_at hil)
            refine mGo_run (n := 400) ok rfl ?_
            refine mGo_side ok rfl (nI_in (by omega) (by omega)) ?_
            rw [nI_clamp (n := i) (by omega), s1]
            refine mGo_run (n := 400) ok rfl ?_
            refine mGo_side ok rfl (nI_in (by omega) (by omega)) ?_
            rw [nI_clamp (n := i) (by omega), s2]
            refine mGo_callV ok rfl (by omega) (c_setUp28 (d := d) hf (t.cf hc) (at0 Q i).1 (at0 Q i).2) (fun τ1 hτ1 => ?_)
            obtain ⟨u0, u2, u3, u4, u5, u6⟩ := hτ1
            have u1 : fr 27 31 τ τ1 := u0.wide (by decide) (by decide)
            have e1 := lE_S u1 hL.2.2.1
            refine mGo_run (n := 400) ok rfl ?_
            rw [e1.1]
            refine mGo_side ok rfl (nI_in (by omega) (by omega)) ?_
            rw [nI_clamp (by omega)]
            refine mGo_runS 55 (n := 400) ok rfl ?_
            have hEl := ENC_len (F := F) (man := man) hf (P := Q) i
            have f2 : fr 27 31 τ (mWI τ1 27 i (nI (ENC F man Q i).length)) := u1.WI (by decide) (by decide)
            have g2 : fE τ (mWI τ1 27 i (nI (ENC F man Q i).length)) := ⟨fun j c1 c2 => f2 j (by omega), by rw [(f2 21 (by omega)).1], by rw [WI_at, if_neg (by omega), u2 4 (by decide)]⟩
            have st2 : ∀ j, j < i → (mWI τ1 27 i (nI (ENC F man Q i).length)).1 27 j = nI (ENC F man Q j).length ∧ (mWI τ1 27 i (nI (ENC F man Q i).length)).1 27 (j + 1) = nI (ENC F man Q (j + 1)).length := by
              intro j hj
              obtain ⟨v1, v2⟩ := hL.2.2.2 j hj
              have h27 : τ1.1 27 = τ.1 27 := (u0 27 (by omega)).1
              refine ⟨by rw [WI_at, if_neg (by omega), h27]; exact v1, ?_⟩
              by_cases z : j + 1 = i
              · rw [WI_at, if_pos ⟨rfl, z⟩, z]
              · rw [WI_at, if_neg (fun y => z y.2), h27]; exact v2
            have leave : ∀ (k2 : Nat) (τ : mHp) (L2 : Option Value) (B : List aP), k ≤ k2 → k2 ≤ 7 → fE σ τ → τ.1 21 11 = 1 → 300 < B.length → mGo g l (d + 5) md_X4_explore (SH (lkL k) (exL k)).length (mTot (SH (lkL k) (exL k))) (85, [some (.ref 21), some (.int (nI i)), L2], [], SH (lkL k2) (exL k2), τ) (fun r sp σ1 => r = some (.int (bI (decide (B.length ≤ 300)))) ∧ ∃ k1, k ≤ k1 ∧ k1 ≤ 7 ∧ sp = SK k1 ∧ fE σ σ1 ∧ (B.length ≤ 300 → sL σ1 F man B k1 B.length)) := by
              intro k2 τ L2 B ka kb t x hB
              refine mGo_run (n := 400) ok rfl ?_
              rw [nI_1]
              refine mGo_side ok rfl (nI_in (by omega) (by omega)) ?_
              rw [nI_clamp (by omega)]
              refine mGo_runS 2 (n := 400) ok rfl ?_
              refine exc k2 _ _ _ B ka kb (t.trans ⟨fun j c1 c2 => ⟨?_, rfl, rfl⟩, ?_, ?_⟩) ?_ hB
              · funext z; rw [WI_at, if_neg (by omega)]
              · rw [WI_at, if_neg (by omega)]
              · rw [WI_at, if_neg (by omega)]
              · rw [WI_at, if_neg (by omega)]; exact x
            have moves : ∀ (rest pre : List (Nat × Nat)), mvs F (at0 Q i).1 (at0 Q i).2 = pre ++ rest → ∀ (k2 : Nat) (τ : mHp) (Qc : List aP), k ≤ k2 → k2 ≤ 7 → fE σ τ → τ.2.1 28 5 = (at0 Q i).1 → τ.2.1 28 6 = (at0 Q i).2 → bM τ 28 (mvs F (at0 Q i).1 (at0 Q i).2) → (∀ j, j < i → τ.1 27 j = nI (ENC F man Q j).length ∧ τ.1 27 (j + 1) = nI (ENC F man Q (j + 1)).length) → τ.1 27 i = nI (ENC F man Q i).length → nd Qc → Qc.length ≤ 300 → pfx Q Qc → sP τ Qc (fun _ => 0) → τ.1 21 11 = 0 → lE τ k2 (ENC F man Q i ++ pre.flatMap (mvL F man Qc i (at0 Q i))) → (∀ q ∈ pre, ∀ x ∈ rps F man (at0 Q i) q, x ∈ Qc) → mGo g l (d + 5) md_X4_explore (SH (lkL k) (exL k)).length (mTot (SH (lkL k) (exL k))) (55, [some (.ref 21), some (.int (nI i)), some (.int (nI pre.length))], [], SH (lkL k2) (exL k2), τ) (fun r sp σ1 => r = some (.int (bI (decide ((bfs F man n (i + 1) (meets Qc (rest.flatMap (rps F man (at0 Q i))))).length ≤ 300)))) ∧ ∃ k1, k ≤ k1 ∧ k1 ≤ 7 ∧ sp = SK k1 ∧ fE σ σ1 ∧ ((bfs F man n (i + 1) (meets Qc (rest.flatMap (rps F man (at0 Q i))))).length ≤ 300 → sL σ1 F man (bfs F man n (i + 1) (meets Qc (rest.flatMap (rps F man (at0 Q i))))) k1 (bfs F man n (i + 1) (meets Qc (rest.flatMap (rps F man (at0 Q i))))).length)) := by
              intro rest
              induction rest with
              | nil =>
                intro pre hp k2 τ Qc ka kb t b1 b2 b3 st sti n1 n2 n3 s x e hin
                rw [List.append_nil] at hp
                have hpl : pre.length ≤ 112 := by rw [← hp]; exact hml
                have e0 : at0 Qc i = at0 Q i := at0_pfx n3 hil
                have ee : ENC F man Q i ++ pre.flatMap (mvL F man Qc i (at0 Q i)) = ENC F man Qc (i + 1) := by
                  rw [ENC_s, ENC_pfx n3 (by omega) hcl]
                  unfold enc
                  rw [e0, hp]
                rw [ee] at e
                refine mGo_run (n := 400) ok rfl ?_
                rw [b3.1]
                refine mGo_ifI ok rfl (nI_leI (a := (mvs F (at0 Q i).1 (at0 Q i).2).length) (b := pre.length) (by omega) (by omega)) (fun h3 => ?_) (fun h3 => ?_)
                · refine mGo_run (n := 400) ok rfl ?_
                  rw [nI_1, e.1]
                  refine mGo_side ok rfl (nI_in (by omega) (by omega)) ?_
                  rw [nI_clamp (by omega)]
                  refine mGo_runS 2 (n := 400) ok rfl ?_
                  rw [nI_1]
                  have e27 : ∀ c, c ≠ 27 → (mWI τ 27 (i + 1) (nI (ENC F man Qc (i + 1)).length)).1 c = τ.1 c := fun c hc => by funext z; rw [WI_at, if_neg (fun y => hc y.1)]
                  refine ih (i + 1) (by omega) k2 _ Qc _ ka kb (t.trans ⟨fun j c1 c2 => ⟨e27 j (by omega), rfl, rfl⟩, by rw [e27 21 (by decide)], by rw [e27 28 (by decide)]⟩) n1 n2 (by have := n3.len; omega) (fun j hj => ?_) ⟨⟨?_, fun j p hp => ?_, ?_⟩, ?_, ⟨?_, e.2.1, fun j y hy => ?_⟩, fun j hj => ?_⟩
                  · rcases Nat.lt_or_ge j i with z | z
                    · rw [at0_pfx n3 (by omega)]; exact clo_mono n3 (hcl j z)
                    · have : j = i := by omega
                      subst this
                      rw [e0]
                      exact fun q hq => hin q (by rw [← hp]; exact hq)
                  · rw [e27 21 (by decide)]; exact s.1
                  · rw [e27 24 (by decide)]; exact s.2.1 j p hp
                  · rw [e27 25 (by decide)]; exact s.2.2
                  · rw [e27 21 (by decide)]; exact x
                  · rw [e27 21 (by decide)]; exact e.1
                  · rw [e27 (lkL k2) (by unfold lkL; split <;> omega)]; exact e.2.2 j y hy
                  · rcases Nat.lt_or_ge j i with z | z
                    · obtain ⟨v1, v2⟩ := st j z
                      rw [ENC_pfx n3 (show j ≤ Q.length by omega) (fun j2 h2 => hcl j2 (by omega)), ENC_pfx n3 (show j + 1 ≤ Q.length by omega) (fun j2 h2 => hcl j2 (by omega))]
                      exact ⟨by rw [WI_at, if_neg (by omega)]; exact v1, by rw [WI_at, if_neg (by omega)]; exact v2⟩
                    · have : j = i := by omega
                      subst this
                      refine ⟨?_, by rw [WI_at, if_pos ⟨rfl, rfl⟩]⟩
                      rw [ENC_pfx n3 (show j ≤ Q.length by omega) (fun j2 h2 => hcl j2 (by omega)), WI_at, if_neg (by omega)]
                      exact sti
                · rw [hp] at h3; omega
              | cons q rest ihm =>
                intro pre hp k2 τ Qc ka kb t b1 b2 b3 st sti n1 n2 n3 s x e hin
                have hpl : pre.length < (mvs F (at0 Q i).1 (at0 Q i).2).length := by rw [hp]; simp
                have hat : (mvs F (at0 Q i).1 (at0 Q i).2)[pre.length]? = some q := by rw [hp]; simp
                have e0 : at0 Qc i = at0 Q i := at0_pfx n3 hil
                have hfl := flat_len (c := 4) (fun q => mvL_len (F := F) (man := man) (P := Qc) (i := i) (p := at0 Q i) (q := q)) pre
                have hlen : (ENC F man Q i ++ pre.flatMap (mvL F man Qc i (at0 Q i))).length + 10 ≤ 200000 := by rw [List.length_append]; omega
                rw [show (q :: rest).flatMap (rps F man (at0 Q i)) = rps F man (at0 Q i) q ++ rest.flatMap (rps F man (at0 Q i)) by simp, meets_app]
                refine mGo_run (n := 400) ok rfl ?_
                rw [b3.1]
                refine mGo_ifI ok rfl (nI_leI (a := (mvs F (at0 Q i).1 (at0 Q i).2).length) (b := pre.length) (by omega) (by omega)) (fun h3 => ?_) (fun h3 => ?_)
                · omega
                · refine mGo_run (n := 400) ok rfl ?_
                  rw [x]
                  refine mGo_if ok rfl (fun h4 => ?_) (fun h4 => ?_)
                  · refine mGo_run (n := 400) ok rfl ?_
                    have LM := c_linkMove (g := g) (l := l) (d := d) (F := F) (man := man) (P := Qc) hf (t.cf hc) kb e hlen s n1 n2 x (by rw [t.2.2]; exact hman) hm1 (i := i) (by have := n3.len; omega) (by rw [e0]; exact b1) (by rw [e0]; exact b2) (by rw [e0]; exact b3) (m := pre.length) (q := q) (by rw [e0]; exact hat)
                    rw [e0] at LM
                    refine mGo_call ok rfl (by omega) LM (fun r sp1 τ3 hq3 => ?_)
                    obtain ⟨rfl, k3, k3a, k3b, rfl, f3, y1, y2⟩ := hq3
                    have t3 := t.trans (fE_X f3)
                    have b13 : τ3.2.1 28 5 = (at0 Q i).1 := by rw [f3.2.2.2 5 (by decide)]; exact b1
                    have b23 : τ3.2.1 28 6 = (at0 Q i).2 := by rw [f3.2.2.2 6 (by decide)]; exact b2
                    have e27 := (f3.1 27 (by decide) (by decide)).1
                    refine mGo_runS 55 (n := 400) ok rfl ?_
                    rw [nI_1, show pre.length + 1 = (pre ++ [q]).length by simp]
                    by_cases hl3 : (meets Qc (rps F man (at0 Q i) q)).length ≤ 300
                    · obtain ⟨z1, z2, z3⟩ := y1 hl3
                      have hpf := meets_pfx (rps F man (at0 Q i) q) Qc
                      refine ihm (pre ++ [q]) (by rw [hp]; simp) k3 τ3 (meets Qc (rps F man (at0 Q i) q)) (by omega) k3b t3 b13 b23 (f3.bm b3) (by rw [e27]; exact st) (by rw [e27]; exact sti) (meets_nd _ n1) hl3 (n3.trans hpf) z1 z2 ?_ ?_
                      · rw [List.flatMap_append, ← List.append_assoc]
                        rw [flat_congr (t := pre) (fun q1 hq1 => mvL_pfx (F := F) (man := man) (i := i) (p := at0 Q i) (q := q1) hpf (hin q1 hq1))]
                        simpa using z3
                      · intro q1 hq1 y hy
                        rcases List.mem_append.mp hq1 with z | z
                        · exact hpf.mem (hin q1 z y hy)
                        · have : q1 = q := by simpa using z
                          subst this
                          exact meets_mem _ hl3 y hy
                    · have x3 := y2 (by omega)
                      have eB : bfs F man n (i + 1) (meets (meets Qc (rps F man (at0 Q i) q)) (rest.flatMap (rps F man (at0 Q i)))) = meets Qc (rps F man (at0 Q i) q) := by rw [meets_full _ (by omega), bfs_full _ _ (by omega)]
                      rw [eB]
                      have hlv := leave k3 τ3 (some (.int (nI (pre ++ [q]).length))) (meets Qc (rps F man (at0 Q i) q)) (by omega) k3b t3 x3 (by omega)
                      refine mGo_run (n := 400) ok rfl ?_
                      refine mGo_if ok rfl (fun h5 => ?_) (fun h5 => ?_)
                      · exact hlv
                      · refine mGo_run (n := 400) ok rfl ?_
                        rw [x3]
                        refine mGo_if ok rfl (fun h6 => ?_) (fun h6 => ?_)
                        · exact absurd h6 (by decide)
                        · exact hlv
                  · exact absurd rfl h4
            refine moves _ [] rfl k1 _ Q ka kb (t.trans g2) u3 u4 ⟨?_, fun j q hq => ?_⟩ st2 ?_ n1 n2 pfx.refl (sP_S f2 hL.1) ?_ ?_ (fun q hq => by simp at hq)
            · rw [WI_at, if_neg (by omega)]; exact u6.1
            · obtain ⟨w1, w2⟩ := u6.2 j q hq
              exact ⟨by rw [WI_at, if_neg (by omega)]; exact w1, by rw [WI_at, if_neg (by omega)]; exact w2⟩
            · rw [WI_at, if_pos ⟨rfl, rfl⟩]
            · rw [(f2 21 (by omega)).1]; exact hL.2.1
            · simpa using lE_S f2 hL.2.2.1
          · exact absurd rfl h2
  exact outer 302 0 (by omega) k σ P none (Nat.le_refl _) hk fE.refl hn hP (Nat.zero_le _) (fun j hj => by omega) ⟨hs, hx, hE, fun j hj => by omega⟩
end T
