/-! transform, both sides -/
theorem nbq {a b : Nat} (h : a ≠ b) : Nat.beq a b = false := by
  cases e : Nat.beq a b with
  | false => rfl
  | true => exact absurd (Nat.eq_of_beq_eq_true e) h
/-- does a word apply to a formula of a kind -/
def qAp (w k : Nat) : Bool := if w = 3 then Nat.beq k 2 || Nat.beq k 3 else if w = 4 then Nat.beq k 4 else !Nat.beq w 0
/-- the formula that a word makes -/
def qMk (w : Nat) (F : aF) (j : Nat) : Option (Nat × aF) :=
  if w = 1 then mkS F 1 j 0
  else if w = 2 then (mkS F 1 j 0).bind (fun x => mkS x.2 1 x.1 0)
  else if w = 3 then mkS F (aK F j) (aB F j) (aA F j)
  else if w = 4 then (mkS F 1 (aB F j) 0).bind (fun x => (mkS x.2 1 (aA F j) 0).bind (fun y => mkS y.2 4 x.1 y.1))
  else (TR 40 F (fun _ => none) j).bind (fun x => some (x.1, x.2.1))
def qTf (T : aI) (F : aF) (f : Int32) : Int32 × aF :=
  if 0 ≤ f ∧ f < nI (aN F) then (if qAp (qWd T) (aK F f.toNatClampNeg) = true then (match qMk (qWd T) F f.toNatClampNeg with
    | none => (-3, F)
    | some (v, F1) => (nI v, F1)) else (-4, F)) else (-2, F)
theorem qWd_le (T : aI) : qWd T ≤ 5 := by
  unfold qWd
  (repeat' split) <;> omega
theorem qAp_k {w k : Nat} (h : qAp w k = true) : 1 ≤ w ∧ (w = 3 → k = 2 ∨ k = 3) ∧ (w = 4 → k = 4) := by
  unfold qAp at h
  by_cases h3 : w = 3
  · rw [if_pos h3, Bool.or_eq_true] at h
    refine ⟨by omega, fun _ => ?_, fun z => by omega⟩
    rcases h with h | h
    · exact Or.inl (Nat.eq_of_beq_eq_true h)
    · exact Or.inr (Nat.eq_of_beq_eq_true h)
  · rw [if_neg h3] at h
    by_cases h4 : w = 4
    · rw [if_pos h4] at h
      exact ⟨by omega, fun z => by omega, fun _ => Nat.eq_of_beq_eq_true h⟩
    · rw [if_neg h4] at h
      refine ⟨?_, fun z => absurd z h3, fun z => absurd z h4⟩
      rcases Nat.eq_zero_or_pos w with z | z
      · rw [z] at h; cases h
      · exact z
/-- what making by a word comes to, in the class -/
def wP (lk : Nat) (ex : mSh) (σ : mHp) (F : aF) (o : Option (Nat × aF)) (r : Option Value) (sp : mSh) (σ1 : mHp) : Prop := sp = SH lk ex ∧ frX σ σ1 ∧ match o with
  | none => r = some (.int (-3)) ∧ ∃ F1, cF σ1 F1 ∧ cS σ1 F1 ∧ fOk F1 ∧ fle F F1
  | some (v, F1) => r = some (.int (nI v)) ∧ cF σ1 F1 ∧ cS σ1 F1 ∧ fOk F1 ∧ fle F F1 ∧ v < aN F1
section T
variable {g : mG} {l : Launch} {d : Nat} {lk : Nat} {ex : mSh} {σ : mHp} {F : aF} {T : aI}
theorem wP_k {r : Option Value} {sp : mSh} {σ1 : mHp} {o : Option (Nat × aF)} (hf : fOk F) (h : kP lk ex σ F o r sp σ1) : wP lk ex σ F o r sp σ1 := by
  obtain ⟨a, b, c⟩ := h
  refine ⟨a, frX_F b, ?_⟩
  cases o with
  | none => exact ⟨c.1, F, c.2.1, c.2.2, hf, fle.refl⟩
  | some x => exact c
theorem c_applies (hf : fOk F) (hc : cF σ F) {w j : Nat} (hw : w ≤ 5) (hj : j < aN F) : mNP g l (d + 1) 71 [.ref 13, .int (nI w), .int (nI j)] lk ex σ (.int (bI (qAp w (aK F j)))) := by
  have hk := (hf.2.2 j hj).2.1
  have ok : mOkP md_X7_applies := ok_at 71 (by decide) rfl
  refine mC_of (md := md_X7_applies) rfl (lt_at (by decide)) rfl ?_
  unfold qAp
  refine mGo_run (n := 400) ok rfl ?_
  refine mGo_callP ok rfl (by omega) (c_kindOf (d := d) hf.2.1 hc hj) ?_
  refine mGo_run (n := 400) ok rfl ?_
  refine mGo_ifI ok rfl (nI_eq (a := w) (b := 3) (by omega) (by omega)) (fun h3 => ?_) (fun h3 => ?_)
  · rw [if_pos h3]
    refine mGo_run (n := 400) ok rfl ?_
    refine mGo_ifI ok rfl (nI_eq (a := aK F j) (b := 2) (by omega) (by omega)) (fun k2 => ?_) (fun k2 => ?_)
    · rw [k2]
      refine mGo_run (n := 400) ok rfl ?_
      exact mGo_ret ok rfl (Or.inr rfl) (⟨rfl, rfl, rfl⟩)
    · refine mGo_run (n := 400) ok rfl ?_
      refine mGo_ifI ok rfl (nI_eq (a := aK F j) (b := 3) (by omega) (by omega)) (fun k3 => ?_) (fun k3 => ?_)
      · rw [k3]
        refine mGo_run (n := 400) ok rfl ?_
        exact mGo_ret ok rfl (Or.inr rfl) (⟨rfl, rfl, rfl⟩)
      · have e : (Nat.beq (aK F j) 2 || Nat.beq (aK F j) 3) = false := by
          rw [Bool.or_eq_false_iff]
          exact ⟨nbq k2, nbq k3⟩
        rw [e]
        refine mGo_run (n := 400) ok rfl ?_
        exact mGo_ret ok rfl (Or.inl rfl) (⟨rfl, rfl, rfl⟩)
  · rw [if_neg h3]
    refine mGo_run (n := 400) ok rfl ?_
    refine mGo_ifI ok rfl (nI_eq (a := w) (b := 4) (by omega) (by omega)) (fun h4 => ?_) (fun h4 => ?_)
    · rw [if_pos h4]
      refine mGo_run (n := 400) ok rfl ?_
      refine mGo_ifI ok rfl (nI_eq (a := aK F j) (b := 4) (by omega) (by omega)) (fun k4 => ?_) (fun k4 => ?_)
      · rw [k4]
        refine mGo_run (n := 400) ok rfl ?_
        exact mGo_ret ok rfl (Or.inr rfl) (⟨rfl, rfl, rfl⟩)
      · have e : Nat.beq (aK F j) 4 = false := nbq k4
        rw [e]
        refine mGo_run (n := 400) ok rfl ?_
        exact mGo_ret ok rfl (Or.inl rfl) (⟨rfl, rfl, rfl⟩)
    · rw [if_neg h4]
      refine mGo_run (n := 400) ok rfl ?_
      refine mGo_ifI ok rfl (nI_eq (a := w) (b := 0) (by omega) (by omega)) (fun h0 => ?_) (fun h0 => ?_)
      · rw [h0]
        refine mGo_run (n := 400) ok rfl ?_
        exact mGo_ret ok rfl (Or.inl rfl) (⟨rfl, rfl, rfl⟩)
      · have e : Nat.beq w 0 = false := nbq h0
        rw [e]
        refine mGo_run (n := 400) ok rfl ?_
        exact mGo_ret ok rfl (Or.inr rfl) (⟨rfl, rfl, rfl⟩)
set_option maxHeartbeats 1000000 in
theorem c_makeBy (hf : fOk F) (hc : cF σ F) (hs : cS σ F) {w j : Nat} (hw : w ≤ 5) (hj : j < aN F) (ha : qAp w (aK F j) = true) : mC g l (d + 85) 72 [.ref 13, .int (nI w), .int (nI j)] (SH lk ex) σ (wP lk ex σ F (qMk w F j)) := by
  obtain ⟨a1, a2, a3⟩ := qAp_k ha
  obtain ⟨w1, w2, w3, w4, w5, w6⟩ := hf.2.2 j hj
  have h40 := hf.2.1
  have h4 := hf.1
  have ok : mOkP md_X7_makeBy := ok_at 72 (by decide) rfl
  refine mC_of (md := md_X7_makeBy) rfl (lt_at (by decide)) rfl ?_
  refine mGo_run (n := 400) ok rfl ?_
  refine mGo_callP ok rfl (by omega) (c_firstOf (d := d) h40 hc hj) ?_
  refine mGo_run (n := 400) ok rfl ?_
  refine mGo_callP ok rfl (by omega) (c_secondOf (d := d) h40 hc hj) ?_
  refine mGo_run (n := 400) ok rfl ?_
  refine mGo_sw ok rfl ⟨fun h => ?_, fun h => ⟨fun h1 => ?_, fun h1 => ⟨fun h2 => ?_, fun h2 => ⟨fun h3 => ?_, fun h3 => ?_⟩⟩⟩⟩
  · have e : w = 1 := (nI_eq (a := w) (b := 1) (by omega) (by omega)).mp h
    subst e
    refine mGo_run (n := 400) ok rfl ?_
    refine mGo_call ok rfl (by omega) (c_neg (d := d) hf hc hs hj) (fun r sp τ hq => ?_)
    have hq2 := wP_k hf hq
    obtain ⟨rfl, q1, q2⟩ := hq
    cases e : mkS F 1 j 0 with
    | none =>
      rw [e] at q2 hq2
      obtain ⟨rfl, -⟩ := q2
      refine mGo_run (n := 400) ok rfl ?_
      refine mGo_ret ok rfl trivial ?_
      show wP lk ex σ F (mkS F 1 j 0) _ _ _
      rw [e]; exact hq2
    | some x =>
      rw [e] at q2 hq2
      obtain ⟨rfl, -⟩ := q2
      refine mGo_run (n := 400) ok rfl ?_
      refine mGo_ret ok rfl trivial ?_
      show wP lk ex σ F (mkS F 1 j 0) _ _ _
      rw [e]; exact hq2
  · have e : w = 2 := (nI_eq (a := w) (b := 2) (by omega) (by omega)).mp h1
    subst e
    show mGo g l (d + 85) md_X7_makeBy _ _ _ (wP lk ex σ F ((mkS F 1 j 0).bind (fun x => mkS x.2 1 x.1 0)))
    refine mGo_run (n := 400) ok rfl ?_
    refine mGo_call ok rfl (by omega) (c_neg (d := d) hf hc hs hj) (fun r sp τ hq => ?_)
    obtain ⟨rfl, q1, q2⟩ := hq
    cases e : mkS F 1 j 0 with
    | none =>
      rw [e] at q2
      obtain ⟨rfl, b1, b2⟩ := q2
      refine mGo_run (n := 400) ok rfl ?_
      refine mGo_callP ok rfl (by omega) (c_negationOf_bad (d := d) b1.1 h40 (n3F hf)) ?_
      refine mGo_run (n := 400) ok rfl ?_
      exact mGo_ret ok rfl trivial (⟨rfl, frX_F q1, rfl, F, b1, b2, hf, fle.refl⟩)
    | some x =>
      obtain ⟨v, F1⟩ := x
      rw [e] at q2
      obtain ⟨rfl, b1, b2, b3, b4, b5⟩ := q2
      simp only [Option.bind_some]
      refine mGo_run (n := 400) ok rfl ?_
      refine mGo_call ok rfl (by omega) (c_neg (d := d) b3 b1 b2 b5) (fun r sp τ2 hq => ?_)
      obtain ⟨rfl, p1, p2⟩ := hq
      cases e2 : mkS F1 1 v 0 with
      | none =>
        rw [e2] at p2
        obtain ⟨rfl, g1, g2⟩ := p2
        refine mGo_run (n := 400) ok rfl ?_
        exact mGo_ret ok rfl trivial (⟨rfl, (frX_F q1).trans (frX_F p1), rfl, F1, g1, g2, b3, b4⟩)
      | some y =>
        obtain ⟨v2, F2⟩ := y
        rw [e2] at p2
        obtain ⟨rfl, g1, g2, g3, g4, g5⟩ := p2
        refine mGo_run (n := 400) ok rfl ?_
        exact mGo_ret ok rfl trivial (⟨rfl, (frX_F q1).trans (frX_F p1), rfl, g1, g2, g3, b4.trans g4, g5⟩)
  · have e : w = 3 := (nI_eq (a := w) (b := 3) (by omega) (by omega)).mp h2
    subst e
    have hk := a2 rfl
    have hA := w3 (by omega)
    have hB := w4 (by omega)
    have e1 : (if aK F j = 0 then (-1 : Int32) else nI (aA F j)) = nI (aA F j) := if_neg (by omega)
    have e2 : (if aK F j < 2 then (-1 : Int32) else nI (aB F j)) = nI (aB F j) := if_neg (by omega)
    show mGo g l (d + 85) md_X7_makeBy _ _ _ (wP lk ex σ F (mkS F (aK F j) (aB F j) (aA F j)))
    rw [e1, e2]
    have cm := c_mkS (g := g) (l := l) (lk := lk) (ex := ex) (d := d) hf hc hs (k := aK F j) (a := aB F j) (b := aA F j) (by omega) (by omega) (by omega) (fun z => by omega)
    rw [if_neg (by omega)] at cm
    refine mGo_run (n := 400) ok rfl ?_
    refine mGo_callP ok rfl (by omega) (c_kindOf (d := d) h40 hc hj) ?_
    refine mGo_run (n := 400) ok rfl ?_
    refine mGo_call ok rfl (by omega) cm (fun r sp τ hq => ?_)
    have hq2 := wP_k hf hq
    obtain ⟨rfl, q1, q2⟩ := hq
    cases e : mkS F (aK F j) (aB F j) (aA F j) with
    | none =>
      rw [e] at q2 hq2
      obtain ⟨rfl, -⟩ := q2
      refine mGo_run (n := 400) ok rfl ?_
      exact mGo_ret ok rfl trivial (hq2)
    | some x =>
      rw [e] at q2 hq2
      obtain ⟨rfl, -⟩ := q2
      refine mGo_run (n := 400) ok rfl ?_
      exact mGo_ret ok rfl trivial (hq2)
  · have e : w = 4 := (nI_eq (a := w) (b := 4) (by omega) (by omega)).mp h3
    subst e
    have hk := a3 rfl
    have hA := w3 (by omega)
    have hB := w4 (by omega)
    have e1 : (if aK F j = 0 then (-1 : Int32) else nI (aA F j)) = nI (aA F j) := if_neg (by omega)
    have e2 : (if aK F j < 2 then (-1 : Int32) else nI (aB F j)) = nI (aB F j) := if_neg (by omega)
    show mGo g l (d + 85) md_X7_makeBy _ _ _ (wP lk ex σ F ((mkS F 1 (aB F j) 0).bind (fun x => (mkS x.2 1 (aA F j) 0).bind (fun y => mkS y.2 4 x.1 y.1))))
    rw [e1, e2]
    refine mGo_run (n := 400) ok rfl ?_
    refine mGo_call ok rfl (by omega) (c_neg (d := d) hf hc hs (a := aB F j) (by omega)) (fun r sp τ hq => ?_)
    obtain ⟨rfl, q1, q2⟩ := hq
    cases e : mkS F 1 (aB F j) 0 with
    | none =>
      rw [e] at q2
      obtain ⟨rfl, b1, b2⟩ := q2
      refine mGo_run (n := 400) ok rfl ?_
      refine mGo_call ok rfl (by omega) (c_neg (d := d) hf b1 b2 (a := aA F j) (by omega)) (fun r sp τ2 hq => ?_)
      obtain ⟨rfl, p1, p2⟩ := hq
      cases e2 : mkS F 1 (aA F j) 0 with
      | none =>
        rw [e2] at p2
        obtain ⟨rfl, g1, g2⟩ := p2
        refine mGo_run (n := 400) ok rfl ?_
        refine mGo_callP ok rfl (by omega) (c_make_bad1 (d := d) g1.1 h40 (n3F hf)) ?_
        refine mGo_run (n := 400) ok rfl ?_
        exact mGo_ret ok rfl trivial (⟨rfl, (frX_F q1).trans (frX_F p1), rfl, F, g1, g2, hf, fle.refl⟩)
      | some y =>
        obtain ⟨v2, F2⟩ := y
        rw [e2] at p2
        obtain ⟨rfl, g1, g2, g3, g4, g5⟩ := p2
        refine mGo_run (n := 400) ok rfl ?_
        refine mGo_callP ok rfl (by omega) (c_make_bad1 (d := d) g1.1 g3.2.1 (n3F g3)) ?_
        refine mGo_run (n := 400) ok rfl ?_
        exact mGo_ret ok rfl trivial (⟨rfl, (frX_F q1).trans (frX_F p1), rfl, F2, g1, g2, g3, g4⟩)
    | some x =>
      obtain ⟨v, F1⟩ := x
      rw [e] at q2
      obtain ⟨rfl, b1, b2, b3, b4, b5⟩ := q2
      have hA1 : aA F j < aN F1 := by have := b4.1; omega
      simp only [Option.bind_some]
      refine mGo_run (n := 400) ok rfl ?_
      refine mGo_call ok rfl (by omega) (c_neg (d := d) b3 b1 b2 hA1) (fun r sp τ2 hq => ?_)
      obtain ⟨rfl, p1, p2⟩ := hq
      cases e2 : mkS F1 1 (aA F j) 0 with
      | none =>
        rw [e2] at p2
        obtain ⟨rfl, g1, g2⟩ := p2
        refine mGo_run (n := 400) ok rfl ?_
        refine mGo_callP ok rfl (by omega) (c_make_bad2 (d := d) g1.1 b3.2.1 (k := 4) (by decide) b5 (n3F b3)) ?_
        refine mGo_run (n := 400) ok rfl ?_
        exact mGo_ret ok rfl trivial (⟨rfl, (frX_F q1).trans (frX_F p1), rfl, F1, g1, g2, b3, b4⟩)
      | some y =>
        obtain ⟨v2, F2⟩ := y
        rw [e2] at p2
        obtain ⟨rfl, g1, g2, g3, g4, g5⟩ := p2
        simp only [Option.bind_some]
        refine mGo_run (n := 400) ok rfl ?_
        refine mGo_call ok rfl (by omega) (c_mkS (d := d) g3 g1 g2 (k := 4) (by omega) (Nat.lt_of_lt_of_le b5 g4.1) g5 (fun z => by omega)) (fun r sp τ3 hq => ?_)
        obtain ⟨rfl, u1, u2⟩ := hq
        cases e3 : mkS F2 4 v v2 with
        | none =>
          rw [e3] at u2
          obtain ⟨rfl, i1, i2⟩ := u2
          refine mGo_run (n := 400) ok rfl ?_
          exact mGo_ret ok rfl trivial (⟨rfl, ((frX_F q1).trans (frX_F p1)).trans (frX_F u1), rfl, F2, i1, i2, g3, b4.trans g4⟩)
        | some y3 =>
          obtain ⟨v3, F3⟩ := y3
          rw [e3] at u2
          obtain ⟨rfl, i1, i2, i3, i4, i5⟩ := u2
          refine mGo_run (n := 400) ok rfl ?_
          exact mGo_ret ok rfl trivial (⟨rfl, ((frX_F q1).trans (frX_F p1)).trans (frX_F u1), rfl, i1, i2, i3, (b4.trans g4).trans i4, i5⟩)
  · have n1 : w ≠ 1 := fun z => h (by rw [z]; rfl)
    have n2 : w ≠ 2 := fun z => h1 (by rw [z]; rfl)
    have n3 : w ≠ 3 := fun z => h2 (by rw [z]; rfl)
    have n4 : w ≠ 4 := fun z => h3 (by rw [z]; rfl)
    have e : w = 5 := by omega
    subst e
    show mGo g l (d + 85) md_X7_makeBy _ _ _ (wP lk ex σ F ((TR 40 F (fun _ => none) j).bind (fun x => some (x.1, x.2.1))))
    refine mGo_run (n := 400) ok rfl ?_
    refine mGo_callV ok rfl (by omega) (c_fillI (d := d) (q := 14) (n := 40) rfl (by omega) (by omega) (-1)) (fun τ hτ => ?_)
    have f1 : fr 14 15 σ τ := by
      intro i hi
      rw [hτ]
      exact ⟨if_neg (by omega), rfl, rfl⟩
    have f2 : ∀ i, i < 40 → τ.1 14 i = -1 := by
      intro i hi
      rw [hτ]
      show (if (14 : Nat) = 14 then (fun j => if j < 40 then (-1 : Int32) else σ.1 14 j) else σ.1 14) i = -1
      rw [if_pos rfl]
      exact if_pos hi
    have t0 : tSt τ F (fun _ => none) := ⟨cF_fr f1 (by omega) hc, cS_fr f1 (by omega) hs, hf, fun i hi => f2 i hi, fun i v hv => by cases hv⟩
    have fx : frX σ τ := fun i x y => f1 i (by omega)
    refine mGo_run (n := 400) ok rfl ?_
    refine mGo_call ok rfl (by omega) (c_translate 40 d τ F (fun _ => none) j 0 (by omega) hj (by omega) t0) (fun r sp τ2 hq => ?_)
    obtain ⟨rfl, q1, q2⟩ := hq
    cases e : TR 40 F (fun _ => none) j with
    | none =>
      rw [e] at q2
      obtain ⟨rfl, q2⟩ := q2
      refine mGo_run (n := 400) ok rfl ?_
      exact mGo_ret ok rfl trivial (⟨rfl, fx.trans q1, rfl, q2⟩)
    | some x =>
      obtain ⟨v, F1, im1⟩ := x
      rw [e] at q2
      obtain ⟨rfl, ⟨b1, b2, b3, -, -⟩, b4, b5⟩ := q2
      refine mGo_run (n := 400) ok rfl ?_
      exact mGo_ret ok rfl trivial (⟨rfl, fx.trans q1, rfl, b1, b2, b3, b4, b5⟩)
end T
