/-! the negative translation: pure, and the class's -/
abbrev aM : Type := Nat → Option Nat
def IMf (rec : aF → aM → Nat → Option (Nat × aF × aM)) (F : aF) (im : aM) (f : Nat) : Option (Nat × aF × aM) :=
  if aK F f = 0 then (mkS F 1 f 0).bind (fun x => (mkS x.2 1 x.1 0).bind (fun y => some (y.1, y.2, im)))
  else (rec F im (aA F f)).bind (fun x =>
    if aK F f = 1 then (mkS x.2.1 1 x.1 0).bind (fun y => some (y.1, y.2, x.2.2))
    else if aK F f = 3 then (mkS x.2.1 1 x.1 0).bind (fun y => (rec y.2 x.2.2 (aB F f)).bind (fun z => (mkS z.2.1 1 z.1 0).bind (fun u => (mkS u.2 2 y.1 u.1).bind (fun w => (mkS w.2 1 w.1 0).bind (fun q => some (q.1, q.2, z.2.2))))))
    else (rec x.2.1 x.2.2 (aB F f)).bind (fun z => (mkS z.2.1 (aK F f) x.1 z.1).bind (fun q => some (q.1, q.2, z.2.2))))
def TR : Nat → aF → aM → Nat → Option (Nat × aF × aM)
  | 0 => fun _ _ _ => none
  | n + 1 => fun F im f => match im f with
    | some v => some (v, F, im)
    | none => (IMf (TR n) F im f).bind (fun x => some (x.1, x.2.1, fun j => if j = f then some x.1 else x.2.2 j))
def oM (o : Option Nat) : Int32 := match o with
  | none => -1
  | some v => nI v
/-- what translating changes: the formulas and the images -/
def frX (σ σ1 : mHp) : Prop := ∀ i, ¬ (1 ≤ i ∧ i < 8) → i ≠ 14 → sm3 σ σ1 i
theorem frX.refl {σ : mHp} : frX σ σ := fun _ _ _ => ⟨rfl, rfl, rfl⟩
theorem frX.trans {σ σ1 σ2 : mHp} (h1 : frX σ σ1) (h2 : frX σ1 σ2) : frX σ σ2 := fun i a b => (h1 i a b).trans (h2 i a b)
theorem frX_F {σ σ1 : mHp} (h : fr 1 8 σ σ1) : frX σ σ1 := fun i a _ => h i a
theorem frX.W {σ σ1 : mHp} {j : Nat} {v : Int32} (h : frX σ σ1) : frX σ (mWI σ1 14 j v) := fun c a b => by
  obtain ⟨x, y, z⟩ := h c a b
  refine ⟨?_, y, z⟩
  rw [← x]
  funext w
  rw [WI_at, if_neg (by omega)]
def tSt (σ : mHp) (F : aF) (im : aM) : Prop := cF σ F ∧ cS σ F ∧ fOk F ∧ (∀ j, j < 40 → σ.1 14 j = oM (im j)) ∧ ∀ j v, im j = some v → v < aN F
def tP (lk : Nat) (ex : mSh) (σ : mHp) (F : aF) (o : Option (Nat × aF × aM)) (r : Option Value) (sp : mSh) (σ1 : mHp) : Prop := sp = SH lk ex ∧ frX σ σ1 ∧ match o with
  | none => r = some (.int (-3)) ∧ ∃ F1, cF σ1 F1 ∧ cS σ1 F1 ∧ fOk F1 ∧ fle F F1
  | some (v, F1, im1) => r = some (.int (nI v)) ∧ tSt σ1 F1 im1 ∧ fle F F1 ∧ v < aN F1
/-- a formula is made: what mkS says -/
def kP (lk : Nat) (ex : mSh) (σ : mHp) (F : aF) (o : Option (Nat × aF)) (r : Option Value) (sp : mSh) (σ1 : mHp) : Prop := sp = SH lk ex ∧ fr 1 8 σ σ1 ∧ match o with
  | none => r = some (.int (-3)) ∧ cF σ1 F ∧ cS σ1 F
  | some (v, F1) => r = some (.int (nI v)) ∧ cF σ1 F1 ∧ cS σ1 F1 ∧ fOk F1 ∧ fle F F1 ∧ v < aN F1
theorem tSt_mk {σ σ1 : mHp} {F F1 : aF} {im : aM} (h : tSt σ F im) (hfr : fr 1 8 σ σ1) (h1 : cF σ1 F1) (h2 : cS σ1 F1) (h3 : fOk F1) (h4 : fle F F1) : tSt σ1 F1 im := by
  obtain ⟨a, b, c, dd, e⟩ := h
  exact ⟨h1, h2, h3, fun j hj => by rw [(hfr 14 (by omega)).1]; exact dd j hj, fun j v hv => Nat.lt_of_lt_of_le (e j v hv) h4.1⟩
theorem n3 {n : Nat} : ¬ ∃ j, j < n ∧ (-3 : Int32) = nI j ∧ j < 2 ^ 31 := fun ⟨j, _, h, h2⟩ => absurd (show nI j < 0 by rw [← h]; decide) (nI_pos h2)
theorem n3F {F : aF} (hf : fOk F) : ¬ ∃ j, j < aN F ∧ (-3 : Int32) = nI j := fun ⟨j, h1, h2⟩ => n3 (n := aN F) ⟨j, h1, h2, by have := hf.2.1; omega⟩
section T
variable {g : mG} {l : Launch} {d : Nat} {lk : Nat} {ex : mSh} {σ : mHp} {F : aF}
theorem c_mkS (hf : fOk F) (hc : cF σ F) (hs : cS σ F) {k a b : Nat} (hk : 1 ≤ k ∧ k ≤ 4) (ha : a < aN F) (hb : b < aN F) (hb1 : k = 1 → b = 0) : mC g l (d + 1) 26 [.ref 1, .int (nI k), .int (nI a), .int (if k < 2 then -1 else nI b)] (SH lk ex) σ (kP lk ex σ F (mkS F k a b)) := by
  obtain ⟨m1, m2, m3⟩ := aMk_ok hf hk ha hb hb1
  refine mC_mono (c_make (g := g) (l := l) (d := d) (lk := lk) (ex := ex) hf hc hs hk ha hb hb1) (fun r sp σ1 q => ?_)
  obtain ⟨q1, q2, q3, q4, q5⟩ := q
  refine ⟨q2, q3, ?_⟩
  unfold mkS
  cases e : (aMk F k a b).1 with
  | none =>
    rw [e] at q1
    rw [aMk_none e] at q4 q5
    exact ⟨q1, q4, q5⟩
  | some v =>
    rw [e] at q1
    exact ⟨q1, q4, q5, m1, aMk_fle F k a b, m2 v e⟩
theorem c_neg (hf : fOk F) (hc : cF σ F) (hs : cS σ F) {a : Nat} (ha : a < aN F) : mC g l (d + 2) 25 [.ref 1, .int (nI a)] (SH lk ex) σ (kP lk ex σ F (mkS F 1 a 0)) := by
  obtain ⟨m1, m2, m3⟩ := aMk_ok (k := 1) (b := 0) hf (by omega) ha (by have := hf.1; omega) (fun _ => rfl)
  refine mC_mono (c_negationOf (g := g) (l := l) (d := d) (lk := lk) (ex := ex) hf hc hs ha) (fun r sp σ1 q => ?_)
  obtain ⟨q1, q2, q3, q4, q5⟩ := q
  refine ⟨q2, q3, ?_⟩
  unfold mkS
  cases e : (aMk F 1 a 0).1 with
  | none =>
    rw [e] at q1
    rw [aMk_none e] at q4 q5
    exact ⟨q1, q4, q5⟩
  | some v =>
    rw [e] at q1
    exact ⟨q1, q4, q5, m1, aMk_fle F 1 a 0, m2 v e⟩
def cTR (g : mG) (l : Launch) (lk : Nat) (ex : mSh) (n : Nat) : Prop := ∀ (d : Nat) (σ : mHp) (F : aF) (im : aM) (f dep : Nat), f < n → f < aN F → dep + n ≤ 41 → tSt σ F im → mC g l (d + 2 * n + 4) 73 [.ref 13, .int (nI f), .int (nI dep)] (SH lk ex) σ (tP lk ex σ F (TR n F im f))
set_option maxHeartbeats 2000000 in
theorem c_imageOf {n : Nat} (ih : cTR g l lk ex n) {im : aM} {f dep : Nat} (hfn : f < n + 1) (hfN : f < aN F) (hdep : dep + n ≤ 40) (h : tSt σ F im) : mC g l (d + 2 * n + 5) 74 [.ref 13, .int (nI f), .int (nI dep)] (SH lk ex) σ (tP lk ex σ F (IMf (TR n) F im f)) := by
  have h0 := h
  obtain ⟨hc, hs, hf, hi, hv⟩ := h0
  obtain ⟨w1, w2, w3, w4, w5, w6⟩ := hf.2.2 f hfN
  have h40 := hf.2.1
  have ok : mOkP md_X7_imageOf := ok_at 74 (by decide) rfl
  refine mC_of (md := md_X7_imageOf) rfl (lt_at (by decide)) rfl ?_
  unfold IMf
  refine mGo_run (n := 400) ok rfl ?_
  refine mGo_callP ok rfl (by omega) (c_kindOf (d := d) h40 hc hfN) ?_
  refine mGo_run (n := 400) ok rfl ?_
  refine mGo_ifI ok rfl (nI_eq (a := aK F f) (b := 0) (by omega) (by omega)) (fun k0 => ?_) (fun k0 => ?_)
  · rw [if_pos k0]
    refine mGo_run (n := 400) ok rfl ?_
    refine mGo_call ok rfl (by omega) (c_neg (d := d) hf hc hs hfN) (fun r sp τ hq => ?_)
    obtain ⟨rfl, q1, q2⟩ := hq
    cases e : mkS F 1 f 0 with
    | none =>
      rw [e] at q2
      obtain ⟨rfl, a1, a2⟩ := q2
      refine mGo_run (n := 400) ok rfl ?_
      refine mGo_callP ok rfl (by omega) (c_negationOf_bad (d := d) a1.1 h40 (n3F hf)) ?_
      refine mGo_run (n := 400) ok rfl ?_
      exact mGo_ret ok rfl trivial (⟨rfl, frX_F q1, rfl, F, a1, a2, hf, fle.refl⟩)
    | some x =>
      obtain ⟨v, F1⟩ := x
      rw [e] at q2
      obtain ⟨rfl, a1, a2, a3, a4, a5⟩ := q2
      refine mGo_run (n := 400) ok rfl ?_
      refine mGo_call ok rfl (by omega) (c_neg (d := d) a3 a1 a2 a5) (fun r sp τ2 hq => ?_)
      obtain ⟨rfl, p1, p2⟩ := hq
      simp only [Option.bind_some]
      cases e2 : mkS F1 1 v 0 with
      | none =>
        rw [e2] at p2
        obtain ⟨rfl, b1, b2⟩ := p2
        refine mGo_run (n := 400) ok rfl ?_
        exact mGo_ret ok rfl trivial (⟨rfl, (frX_F q1).trans (frX_F p1), rfl, F1, b1, b2, a3, a4⟩)
      | some y =>
        obtain ⟨v2, F2⟩ := y
        rw [e2] at p2
        obtain ⟨rfl, b1, b2, b3, b4, b5⟩ := p2
        refine mGo_run (n := 400) ok rfl ?_
        exact mGo_ret ok rfl trivial (⟨rfl, (frX_F q1).trans (frX_F p1), rfl, tSt_mk (tSt_mk h q1 a1 a2 a3 a4) p1 b1 b2 b3 b4, a4.trans b4, b5⟩)
  · rw [if_neg k0]
    have hA : aA F f < f := w3 k0
    refine mGo_run (n := 400) ok rfl ?_
    refine mGo_callP ok rfl (by omega) (c_firstOf (d := d) h40 hc hfN) ?_
    rw [if_neg k0]
    refine mGo_run (n := 400) ok rfl ?_
    rw [nI_1]
    refine mGo_call ok rfl (by omega) (ih d σ F im (aA F f) (dep + 1) (by omega) (by omega) (by omega) h) (fun r sp τ hq => ?_)
    obtain ⟨rfl, q1, q2⟩ := hq
    cases e : TR n F im (aA F f) with
    | none =>
      rw [e] at q2
      obtain ⟨rfl, F1, a1, a2, a3, a4⟩ := q2
      have ret : ∀ L5 L6 : Option Value, mGo g l (d + 2 * n + 5) md_X7_imageOf (SH lk ex).length (mTot (SH lk ex)) (89, [some (.ref 13), some (.int (nI f)), some (.int (nI dep)), some (.int (nI (aK F f))), some (.int (-3)), L5, L6], [], SH lk ex, τ) (tP lk ex σ F none) := by
        intro L5 L6
        refine mGo_run (n := 400) ok rfl ?_
        refine mGo_if ok rfl (fun z => ?_) (fun z => ?_)
        · exact absurd z (by decide)
        · refine mGo_run (n := 400) ok rfl ?_
          exact mGo_ret ok rfl trivial (⟨rfl, q1, rfl, F1, a1, a2, a3, a4⟩)
      refine mGo_run (n := 400) ok rfl ?_
      refine mGo_ifI ok rfl (nI_eq (a := aK F f) (b := 1) (by omega) (by omega)) (fun k1 => ?_) (fun k1 => ?_)
      · refine mGo_run (n := 400) ok rfl ?_
        refine mGo_callP ok rfl (by omega) (c_negationOf_bad (d := d) a1.1 a3.2.1 (n3F a3)) ?_
        refine mGo_run (n := 400) ok rfl ?_
        exact mGo_ret ok rfl trivial (⟨rfl, q1, rfl, F1, a1, a2, a3, a4⟩)
      · refine mGo_run (n := 400) ok rfl ?_
        refine mGo_ifI ok rfl (nI_eq (a := aK F f) (b := 3) (by omega) (by omega)) (fun k3 => ?_) (fun k3 => ?_)
        · refine mGo_run (n := 400) ok rfl ?_
          refine mGo_if ok rfl (fun z => ?_) (fun z => ?_)
          · exact absurd z (by decide)
          · refine mGo_run (n := 400) ok rfl ?_
            refine mGo_callP ok rfl (by omega) (c_negationOf_bad (d := d) a1.1 a3.2.1 (n3F a3)) ?_
            refine mGo_runS 89 (n := 400) ok rfl ?_
            exact ret _ _
        · refine mGo_run (n := 400) ok rfl ?_
          refine mGo_if ok rfl (fun z => ?_) (fun z => ?_)
          · exact ret _ _
          · exact absurd rfl z
    | some x =>
      obtain ⟨va, F1, im1⟩ := x
      rw [e] at q2
      obtain ⟨rfl, t1, a4, a5⟩ := q2
      obtain ⟨a1, a2, a3, a6, a7⟩ := id t1
      have hK1 : aK F1 f = aK F f ∧ aB F1 f = aB F f := ⟨(a4.2 f hfN).1, (a4.2 f hfN).2.2⟩
      simp only [Option.bind_some]
      refine mGo_run (n := 400) ok rfl ?_
      refine mGo_ifI ok rfl (nI_eq (a := aK F f) (b := 1) (by omega) (by omega)) (fun k1 => ?_) (fun k1 => ?_)
      · rw [if_pos k1]
        refine mGo_run (n := 400) ok rfl ?_
        refine mGo_call ok rfl (by omega) (c_neg (d := d) a3 a1 a2 a5) (fun r sp τ2 hq => ?_)
        obtain ⟨rfl, p1, p2⟩ := hq
        cases e2 : mkS F1 1 va 0 with
        | none =>
          rw [e2] at p2
          obtain ⟨rfl, b1, b2⟩ := p2
          refine mGo_run (n := 400) ok rfl ?_
          exact mGo_ret ok rfl trivial (⟨rfl, q1.trans (frX_F p1), rfl, F1, b1, b2, a3, a4⟩)
        | some y =>
          obtain ⟨v2, F2⟩ := y
          rw [e2] at p2
          obtain ⟨rfl, b1, b2, b3, b4, b5⟩ := p2
          refine mGo_run (n := 400) ok rfl ?_
          exact mGo_ret ok rfl trivial (⟨rfl, q1.trans (frX_F p1), rfl, tSt_mk t1 p1 b1 b2 b3 b4, a4.trans b4, b5⟩)
      · rw [if_neg k1]
        have hB : aB F f < f := w4 (by omega)
        refine mGo_run (n := 400) ok rfl ?_
        refine mGo_ifI ok rfl (nI_eq (a := aK F f) (b := 3) (by omega) (by omega)) (fun k3 => ?_) (fun k3 => ?_)
        · rw [if_pos k3]
          refine mGo_run (n := 400) ok rfl ?_
          refine mGo_if ok rfl (fun z => ?_) (fun z => ?_)
          · exact absurd z (by decide)
          · clear z
            refine mGo_run (n := 400) ok rfl ?_
            refine mGo_call ok rfl (by omega) (c_neg (d := d) a3 a1 a2 a5) (fun r sp τ2 hq => ?_)
            obtain ⟨rfl, p1, p2⟩ := hq
            cases e2 : mkS F1 1 va 0 with
            | none =>
              rw [e2] at p2
              obtain ⟨rfl, b1, b2⟩ := p2
              refine mGo_run (n := 400) ok rfl ?_
              refine mGo_if ok rfl (fun z => ?_) (fun z => ?_)
              · exact absurd z (by decide)
              · refine mGo_run (n := 400) ok rfl ?_
                exact mGo_ret ok rfl trivial (⟨rfl, q1.trans (frX_F p1), rfl, F1, b1, b2, a3, a4⟩)
            | some y =>
              obtain ⟨v2, F2⟩ := y
              rw [e2] at p2
              obtain ⟨rfl, b1, b2, b3, b4, b5⟩ := p2
              have t2 := tSt_mk t1 p1 b1 b2 b3 b4
              have f4 := a4.trans b4
              have hfN2 : f < aN F2 := Nat.lt_of_lt_of_le hfN f4.1
              simp only [Option.bind_some]
              refine mGo_run (n := 400) ok rfl ?_
              refine mGo_if ok rfl (fun z => ?_) (fun z => ?_)
              · clear z
                refine mGo_run (n := 400) ok rfl ?_
                refine mGo_callP ok rfl (by omega) (c_secondOf (d := d) b3.2.1 b1 hfN2) ?_
                rw [(f4.2 f hfN).1, (f4.2 f hfN).2.2, if_neg (by omega)]
                refine mGo_run (n := 400) ok rfl ?_
                rw [nI_1]
                refine mGo_call ok rfl (by omega) (ih d τ2 F2 im1 (aB F f) (dep + 1) (by omega) (by omega) (by omega) t2) (fun r sp τ3 hq => ?_)
                obtain ⟨rfl, u1, u2⟩ := hq
                cases e3 : TR n F2 im1 (aB F f) with
                | none =>
                  rw [e3] at u2
                  obtain ⟨rfl, F3, g1, g2, g3, g4⟩ := u2
                  refine mGo_run (n := 400) ok rfl ?_
                  refine mGo_if ok rfl (fun z => ?_) (fun z => ?_)
                  · exact absurd z (by decide)
                  · clear z
                    refine mGo_run (n := 400) ok rfl ?_
                    refine mGo_callP ok rfl (by omega) (c_negationOf_bad (d := d) g1.1 g3.2.1 (n3F g3)) ?_
                    refine mGo_run (n := 400) ok rfl ?_
                    refine mGo_callP ok rfl (by omega) (c_make_bad2 (d := d) g1.1 g3.2.1 (k := 2) (by decide) (Nat.lt_of_lt_of_le b5 g4.1) (n3F g3)) ?_
                    refine mGo_run (n := 400) ok rfl ?_
                    refine mGo_callP ok rfl (by omega) (c_negationOf_bad (d := d) g1.1 g3.2.1 (n3F g3)) ?_
                    refine mGo_run (n := 400) ok rfl ?_
                    exact mGo_ret ok rfl trivial (⟨rfl, (q1.trans (frX_F p1)).trans u1, rfl, F3, g1, g2, g3, f4.trans g4⟩)
                | some y3 =>
                  obtain ⟨v3, F3, im3⟩ := y3
                  rw [e3] at u2
                  obtain ⟨rfl, t3, g4, g5⟩ := u2
                  obtain ⟨g1, g2, g3, -, -⟩ := id t3
                  simp only [Option.bind_some]
                  refine mGo_run (n := 400) ok rfl ?_
                  refine mGo_if ok rfl (fun z => ?_) (fun z => ?_)
                  · exact absurd z (by decide)
                  · clear z
                    refine mGo_run (n := 400) ok rfl ?_
                    refine mGo_call ok rfl (by omega) (c_neg (d := d) g3 g1 g2 g5) (fun r sp τ4 hq => ?_)
                    obtain ⟨rfl, x1, x2⟩ := hq
                    cases e4 : mkS F3 1 v3 0 with
                    | none =>
                      rw [e4] at x2
                      obtain ⟨rfl, i1, i2⟩ := x2
                      refine mGo_run (n := 400) ok rfl ?_
                      refine mGo_callP ok rfl (by omega) (c_make_bad2 (d := d) i1.1 g3.2.1 (k := 2) (by decide) (Nat.lt_of_lt_of_le b5 g4.1) (n3F g3)) ?_
                      refine mGo_run (n := 400) ok rfl ?_
                      refine mGo_callP ok rfl (by omega) (c_negationOf_bad (d := d) i1.1 g3.2.1 (n3F g3)) ?_
                      refine mGo_run (n := 400) ok rfl ?_
                      exact mGo_ret ok rfl trivial (⟨rfl, ((q1.trans (frX_F p1)).trans u1).trans (frX_F x1), rfl, F3, i1, i2, g3, f4.trans g4⟩)
                    | some y4 =>
                      obtain ⟨v4, F4⟩ := y4
                      rw [e4] at x2
                      obtain ⟨rfl, i1, i2, i3, i4, i5⟩ := x2
                      have hv2 : v2 < aN F4 := Nat.lt_of_lt_of_le b5 (g4.trans i4).1
                      simp only [Option.bind_some]
                      refine mGo_run (n := 400) ok rfl ?_
                      refine mGo_call ok rfl (by omega) (c_mkS (d := d) i3 i1 i2 (k := 2) (by omega) hv2 i5 (fun z => by omega)) (fun r sp τ5 hq => ?_)
                      obtain ⟨rfl, j1, j2⟩ := hq
                      cases e5 : mkS F4 2 v2 v4 with
                      | none =>
                        rw [e5] at j2
                        obtain ⟨rfl, j3, j4⟩ := j2
                        refine mGo_run (n := 400) ok rfl ?_
                        refine mGo_callP ok rfl (by omega) (c_negationOf_bad (d := d) j3.1 i3.2.1 (n3F i3)) ?_
                        refine mGo_run (n := 400) ok rfl ?_
                        exact mGo_ret ok rfl trivial (⟨rfl, (((q1.trans (frX_F p1)).trans u1).trans (frX_F x1)).trans (frX_F j1), rfl, F4, j3, j4, i3, (f4.trans g4).trans i4⟩)
                      | some y5 =>
                        obtain ⟨v5, F5⟩ := y5
                        rw [e5] at j2
                        obtain ⟨rfl, j3, j4, j5, j6, j7⟩ := j2
                        simp only [Option.bind_some]
                        refine mGo_run (n := 400) ok rfl ?_
                        refine mGo_call ok rfl (by omega) (c_neg (d := d) j5 j3 j4 j7) (fun r sp τ6 hq => ?_)
                        obtain ⟨rfl, o1, o2⟩ := hq
                        cases e6 : mkS F5 1 v5 0 with
                        | none =>
                          rw [e6] at o2
                          obtain ⟨rfl, o3, o4⟩ := o2
                          refine mGo_run (n := 400) ok rfl ?_
                          exact mGo_ret ok rfl trivial (⟨rfl, ((((q1.trans (frX_F p1)).trans u1).trans (frX_F x1)).trans (frX_F j1)).trans (frX_F o1), rfl, F5, o3, o4, j5, ((f4.trans g4).trans i4).trans j6⟩)
                        | some y6 =>
                          obtain ⟨v6, F6⟩ := y6
                          rw [e6] at o2
                          obtain ⟨rfl, o3, o4, o5, o6, o7⟩ := o2
                          refine mGo_run (n := 400) ok rfl ?_
                          exact mGo_ret ok rfl trivial (⟨rfl, ((((q1.trans (frX_F p1)).trans u1).trans (frX_F x1)).trans (frX_F j1)).trans (frX_F o1), rfl, tSt_mk (tSt_mk (tSt_mk t3 x1 i1 i2 i3 i4) j1 j3 j4 j5 j6) o1 o3 o4 o5 o6, (((f4.trans g4).trans i4).trans j6).trans o6, o7⟩)
              · exact absurd (nI_pos' (by have := b3.2.1; omega)) z
        · rw [if_neg k3]
          have hk : 2 ≤ aK F f ∧ aK F f ≤ 4 := by omega
          have hfN2 : f < aN F1 := Nat.lt_of_lt_of_le hfN a4.1
          refine mGo_run (n := 400) ok rfl ?_
          refine mGo_if ok rfl (fun z => ?_) (fun z => ?_)
          · clear z
            refine mGo_run (n := 400) ok rfl ?_
            refine mGo_if ok rfl (fun z => ?_) (fun z => ?_)
            · clear z
              refine mGo_run (n := 400) ok rfl ?_
              refine mGo_callP ok rfl (by omega) (c_secondOf (d := d) a3.2.1 a1 hfN2) ?_
              rw [hK1.1, hK1.2, if_neg (by omega)]
              refine mGo_run (n := 400) ok rfl ?_
              rw [nI_1]
              refine mGo_call ok rfl (by omega) (ih d τ F1 im1 (aB F f) (dep + 1) (by omega) (by omega) (by omega) t1) (fun r sp τ3 hq => ?_)
              obtain ⟨rfl, u1, u2⟩ := hq
              cases e3 : TR n F1 im1 (aB F f) with
              | none =>
                rw [e3] at u2
                obtain ⟨rfl, F3, g1, g2, g3, g4⟩ := u2
                refine mGo_run (n := 400) ok rfl ?_
                refine mGo_if ok rfl (fun z => ?_) (fun z => ?_)
                · clear z
                  refine mGo_run (n := 400) ok rfl ?_
                  refine mGo_callP ok rfl (by omega) (c_make_bad2 (d := d) g1.1 g3.2.1 (k := nI (aK F f)) (fun z => by have := (nI_eq (a := aK F f) (b := 1) (by omega) (by omega)).mp z; omega) (Nat.lt_of_lt_of_le a5 g4.1) (n3F g3)) ?_
                  refine mGo_run (n := 400) ok rfl ?_
                  exact mGo_ret ok rfl trivial (⟨rfl, q1.trans u1, rfl, F3, g1, g2, g3, a4.trans g4⟩)
                · exact absurd rfl z
              | some y3 =>
                obtain ⟨v3, F3, im3⟩ := y3
                rw [e3] at u2
                obtain ⟨rfl, t3, g4, g5⟩ := u2
                obtain ⟨g1, g2, g3, -, -⟩ := id t3
                simp only [Option.bind_some]
                have cm := c_mkS (g := g) (l := l) (lk := lk) (ex := ex) (d := d) g3 g1 g2 (k := aK F f) (a := va) (b := v3) (by omega) (Nat.lt_of_lt_of_le a5 g4.1) g5 (fun z => by omega)
                rw [if_neg (by omega)] at cm
                refine mGo_run (n := 400) ok rfl ?_
                refine mGo_if ok rfl (fun z => ?_) (fun z => ?_)
                · clear z
                  refine mGo_run (n := 400) ok rfl ?_
                  refine mGo_call ok rfl (by omega) cm (fun r sp τ5 hq => ?_)
                  obtain ⟨rfl, j1, j2⟩ := hq
                  cases e5 : mkS F3 (aK F f) va v3 with
                  | none =>
                    rw [e5] at j2
                    obtain ⟨rfl, j3, j4⟩ := j2
                    refine mGo_run (n := 400) ok rfl ?_
                    exact mGo_ret ok rfl trivial (⟨rfl, (q1.trans u1).trans (frX_F j1), rfl, F3, j3, j4, g3, a4.trans g4⟩)
                  | some y5 =>
                    obtain ⟨v5, F5⟩ := y5
                    rw [e5] at j2
                    obtain ⟨rfl, j3, j4, j5, j6, j7⟩ := j2
                    refine mGo_run (n := 400) ok rfl ?_
                    exact mGo_ret ok rfl trivial (⟨rfl, (q1.trans u1).trans (frX_F j1), rfl, tSt_mk t3 j1 j3 j4 j5 j6, (a4.trans g4).trans j6, j7⟩)
                · exact absurd rfl z
            · exact absurd (nI_pos' (by have := a3.2.1; omega)) z
          · exact absurd rfl z
theorem c_translate (n : Nat) : cTR g l lk ex n := by
  induction n with
  | zero => intro d σ F im f dep h; omega
  | succ n ih =>
    intro d σ F im f dep hfn hfN hdep h
    have h0 := h
    obtain ⟨hc, hs, hf, hi, hv⟩ := h0
    have h40 := hf.2.1
    have ok : mOkP md_X7_translate := ok_at 73 (by decide) rfl
    refine mC_of (md := md_X7_translate) rfl (lt_at (by decide)) rfl ?_
    refine mGo_run (n := 400) ok rfl ?_
    refine mGo_callP ok rfl (by omega) (c_has1 (d := d) hc.1 h40 hfN) ?_
    refine mGo_if ok rfl (fun z => ?_) (fun z => ?_)
    · exact absurd z (by decide)
    · clear z
      refine mGo_run (n := 400) ok rfl ?_
      refine mGo_ifI ok rfl (nI_leI (a := dep) (b := 40) (by omega) (by omega)) (fun z => ?_) (fun z => ?_)
      · clear z
        refine mGo_run (n := 400) ok rfl ?_
        refine mGo_side ok rfl (nI_in (by omega) (by omega)) ?_
        rw [nI_clamp (n := f) (by omega), hi f (by omega)]
        refine mGo_run (n := 400) ok rfl ?_
        have e0 : TR (n + 1) F im f = (match im f with
          | some v => some (v, F, im)
          | none => (IMf (TR n) F im f).bind (fun x => some (x.1, x.2.1, fun j => if j = f then some x.1 else x.2.2 j))) := rfl
        rw [e0]
        cases e : im f with
        | some v =>
          have hvn := hv f v e
          refine mGo_if ok rfl (fun z => ?_) (fun z => ?_)
          · clear z
            refine mGo_run (n := 400) ok rfl ?_
            refine mGo_side ok rfl (nI_in (by omega) (by omega)) ?_
            rw [nI_clamp (n := f) (by omega), hi f (by omega)]
            rw [e]
            refine mGo_run (n := 400) ok rfl ?_
            exact mGo_ret ok rfl trivial (⟨rfl, frX.refl, rfl, h, fle.refl, hvn⟩)
          · exact absurd (nI_pos' (by omega)) z
        | none =>
          refine mGo_if ok rfl (fun z => ?_) (fun z => ?_)
          · exact absurd z (by decide)
          · clear z
            refine mGo_run (n := 400) ok rfl ?_
            refine mGo_call ok rfl (by omega) (c_imageOf (d := d) ih hfn hfN (by omega) h) (fun r sp τ hq => ?_)
            obtain ⟨rfl, q1, q2⟩ := hq
            cases e2 : IMf (TR n) F im f with
            | none =>
              rw [e2] at q2
              obtain ⟨rfl, F1, a1, a2, a3, a4⟩ := q2
              refine mGo_run (n := 400) ok rfl ?_
              refine mGo_side ok rfl (nI_in (by omega) (by omega)) ?_
              rw [nI_clamp (by omega)]
              refine mGo_run (n := 400) ok rfl ?_
              refine mGo_side ok rfl (nI_in (by omega) (by omega)) ?_
              rw [nI_clamp (n := f) (by omega), (show (mWI τ 14 f (-3)).1 14 f = -3 by rw [WI_at, if_pos ⟨rfl, rfl⟩])]
              refine mGo_run (n := 400) ok rfl ?_
              exact mGo_ret ok rfl trivial (⟨rfl, q1.W, rfl, F1, cF_W (by omega) a1, cS_W (by omega) a2, a3, a4⟩)
            | some x =>
              obtain ⟨v, F1, im1⟩ := x
              rw [e2] at q2
              obtain ⟨rfl, t1, a4, a5⟩ := q2
              obtain ⟨a1, a2, a3, a6, a7⟩ := t1
              refine mGo_run (n := 400) ok rfl ?_
              refine mGo_side ok rfl (nI_in (by omega) (by omega)) ?_
              rw [nI_clamp (by omega)]
              refine mGo_run (n := 400) ok rfl ?_
              refine mGo_side ok rfl (nI_in (by omega) (by omega)) ?_
              rw [nI_clamp (n := f) (by omega), (show (mWI τ 14 f (nI v)).1 14 f = nI v by rw [WI_at, if_pos ⟨rfl, rfl⟩])]
              refine mGo_run (n := 400) ok rfl ?_
              refine mGo_ret ok rfl trivial ⟨rfl, q1.W, rfl, ⟨cF_W (by omega) a1, cS_W (by omega) a2, a3, fun j hj => ?_, fun j w hw => ?_⟩, a4, a5⟩
              · rw [WI_at]
                by_cases hjf : j = f
                · rw [if_pos ⟨rfl, hjf⟩]; simp only [if_pos hjf]; rfl
                · rw [if_neg (fun z => hjf z.2)]; simp only [if_neg hjf]; exact a6 j hj
              · by_cases hjf : j = f
                · simp only [if_pos hjf] at hw; cases hw; exact a5
                · simp only [if_neg hjf] at hw; exact a7 j w hw
      · omega
end T
