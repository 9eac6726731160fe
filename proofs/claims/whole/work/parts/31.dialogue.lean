/-! the class Dialogue -/
/-- the move with a number -/
def mvA (ms : List (Nat × Nat)) (m : Int32) : Option (Nat × Nat) := if m < 0 then none else ms[m.toNatClampNeg]?
theorem mvA_cases (ms : List (Nat × Nat)) (hl : ms.length ≤ 112) (m : Int32) : (mvA ms m = none ∧ ¬ ∃ j, j < ms.length ∧ m = nI j) ∨ ∃ i q, m = nI i ∧ ms[i]? = some q ∧ mvA ms m = some q := by
  unfold mvA
  by_cases h : m < 0
  · rw [if_pos h]
    exact Or.inl ⟨rfl, fun ⟨j, hj, e⟩ => absurd (e ▸ h) (nI_pos (by omega))⟩
  · rw [if_neg h]
    obtain ⟨j, hj, rfl⟩ := nI_of h
    rw [nI_clamp hj]
    cases e : ms[j]? with
    | none =>
      refine Or.inl ⟨rfl, fun ⟨i, hi, e2⟩ => ?_⟩
      have : j = i := (nI_eq hj (by omega)).mp e2
      subst this
      have := List.getElem?_eq_none_iff.mp e
      omega
    | some q => exact Or.inr ⟨j, q, rfl, e, rfl⟩
def upP (ps : Nat → Int64 × Int64) (i : Nat) (p : Int64 × Int64) : Nat → Int64 × Int64 := fun j => if j = i then p else ps j
/-- a dialogue goes on by a move and a reply: the answer; is it won, how many were played, the positions -/
def aPl (F : aF) (k man : Nat) (ps : Nat → Int64 × Int64) (m r : Int32) : Int32 × Bool × Nat × (Nat → Int64 × Int64) :=
  match mvA (mvs F (ps k).1 (ps k).2) m with
  | none => (-5, false, k, ps)
  | some q => if rpN F q = 0 then (if k = 20 then (-3, false, k, ps) else (1000, true, k + 1, upP ps (k + 1) (ps k)))
    else if ¬ (0 ≤ r ∧ r < nI (rpN F q)) then (-1, false, k, ps)
    else if k = 20 then (-3, false, k, ps)
    else (nI (mvs F (rpP F man (ps k).1 (ps k).2 q r.toNatClampNeg).1 (rpP F man (ps k).1 (ps k).2 q r.toNatClampNeg).2).length, false, k + 1, upP ps (k + 1) (rpP F man (ps k).1 (ps k).2 q r.toNatClampNeg))
/-- the class's dialogue: begun, won, how many were played, the manner, the positions -/
def cD (σ : mHp) (F : aF) (bg w : Bool) (k man : Nat) (ps : Nat → Int64 × Int64) : Prop := σ.1 15 4 = bI bg ∧ σ.1 15 5 = bI (bg && w) ∧ σ.1 15 3 = nI (if bg = true then k else 0) ∧ (bg = true → (∀ i, i < k → σ.2.1 16 i = (ps i).1 ∧ σ.2.1 17 i = (ps i).2) ∧ σ.1 18 4 = nI man ∧ σ.2.1 18 5 = (ps k).1 ∧ σ.2.1 18 6 = (ps k).2 ∧ bM σ 18 (mvs F (ps k).1 (ps k).2))
theorem bM_fr {lo hi b : Nat} {σ σ1 : mHp} {ms : List (Nat × Nat)} (h : fr lo hi σ σ1) (hb : b + 3 ≤ lo ∨ hi ≤ b) (hm : bM σ b ms) : bM σ1 b ms := by
  refine ⟨?_, fun i q hq => ?_⟩
  · rw [(h b (by omega)).1]; exact hm.1
  · rw [(h (b + 1) (by omega)).1, (h (b + 2) (by omega)).1]; exact hm.2 i q hq
theorem cD_fr {lo hi : Nat} {σ σ1 : mHp} {F : aF} {bg w : Bool} {k man : Nat} {ps : Nat → Int64 × Int64} (h : fr lo hi σ σ1) (hlo : 21 ≤ lo ∨ hi ≤ 15) (hd : cD σ F bg w k man ps) : cD σ1 F bg w k man ps := by
  obtain ⟨d1, d2, d3, d4⟩ := hd
  have e15 := h 15 (by omega)
  have e16 := h 16 (by omega)
  have e17 := h 17 (by omega)
  have e18 := h 18 (by omega)
  refine ⟨by rw [e15.1]; exact d1, by rw [e15.1]; exact d2, by rw [e15.1]; exact d3, fun z => ?_⟩
  obtain ⟨f1, f2, f3, f4, f5⟩ := d4 z
  exact ⟨fun i hi => by rw [e16.2.1, e17.2.1]; exact f1 i hi, by rw [e18.1]; exact f2, by rw [e18.2.1]; exact f3, by rw [e18.2.1]; exact f4, bM_fr h (by omega) f5⟩
theorem bI_and (a b : Bool) : bI (a && b) = if a = true then bI b else 0 := by cases a <;> cases b <;> rfl
section T
variable {g : mG} {l : Launch} {d : Nat} {lk : Nat} {ex : mSh} {σ : mHp} {F : aF} {bg w : Bool} {k man : Nat} {ps : Nat → Int64 × Int64}
theorem c_isOn (hD : cD σ F bg w k man ps) : mNP g l d 12 [.ref 15] lk ex σ (.int (bI (bg && !w))) := by
  obtain ⟨d1, d2, d3, d4⟩ := hD
  have ok : mOkP md_X1_isOn := ok_at 12 (by decide) rfl
  refine mC_of (md := md_X1_isOn) rfl (lt_at (by decide)) rfl ?_
  refine mGo_run (n := 400) ok rfl ?_
  rw [d1]
  refine mGo_if ok rfl (fun h => ?_) (fun h => ?_)
  · cases bg with
    | true => exact absurd h (by decide)
    | false =>
      refine mGo_run (n := 400) ok rfl ?_
      exact mGo_ret ok rfl (Or.inl rfl) (⟨rfl, rfl, rfl⟩)
  · cases bg with
    | false => exact absurd rfl h
    | true =>
      refine mGo_run (n := 400) ok rfl ?_
      rw [d2]
      refine mGo_if ok rfl (fun h1 => ?_) (fun h1 => ?_)
      · cases w with
        | true => exact absurd h1 (by decide)
        | false =>
          refine mGo_run (n := 400) ok rfl ?_
          exact mGo_ret ok rfl (Or.inr rfl) (⟨rfl, rfl, rfl⟩)
      · cases w with
        | false => exact absurd rfl h1
        | true =>
          refine mGo_run (n := 400) ok rfl ?_
          exact mGo_ret ok rfl (Or.inl rfl) (⟨rfl, rfl, rfl⟩)
theorem c_drop : mNV g l d 13 [.ref 15] lk ex σ (fun σ1 => σ1 = mWI (mWI (mWI σ 15 4 0) 15 5 0) 15 3 0) := by
  have ok : mOkP md_X1_drop := ok_at 13 (by decide) rfl
  refine mC_of (md := md_X1_drop) rfl (lt_at (by decide)) rfl ?_
  refine mGo_run (n := 400) ok rfl ?_
  refine mGo_side ok rfl (Or.inl rfl) ?_
  refine mGo_run (n := 400) ok rfl ?_
  refine mGo_side ok rfl (Or.inl rfl) ?_
  refine mGo_run (n := 400) ok rfl ?_
  exact mGo_ret ok rfl trivial (⟨rfl, rfl, rfl⟩)
theorem c_open (hf : fOk F) (hc : cF σ F) {f mn r : Nat} (hfn : f < aN F) (k0 : aK F f ≠ 0) (hm1 : mn ≤ 1) (hr : r < 4) : mNV g l (d + 4) 14 [.ref 15, .int (nI f), .int (nI mn), .int (nI r)] lk ex σ (fun σ1 => fr 15 21 σ σ1 ∧ cD σ1 F true false 0 mn (fun _ => atP2 F mn 0 0 f r)) := by
  have ok : mOkP md_X1_open := ok_at 14 (by decide) rfl
  refine mC_of (md := md_X1_open) rfl (lt_at (by decide)) rfl ?_
  refine mGo_run (n := 400) ok rfl ?_
  refine mGo_callV ok rfl (by omega) (c_drop (d := d)) (fun σ1 hσ1 => ?_)
  refine mGo_run (n := 400) ok rfl ?_
  refine mGo_side ok rfl (Or.inr rfl) ?_
  refine mGo_run (n := 400) ok rfl ?_
  subst hσ1
  have fr0 : fr 15 21 σ (mWL (mWL (mWI (mWI (mWI (mWI (mWI σ 15 4 0) 15 5 0) 15 3 0) 15 4 1) 18 4 (nI mn)) 18 5 0) 18 6 0) := ((((((fr.refl.WI (by decide) (by decide)).WI (by decide) (by decide)).WI (by decide) (by decide)).WI (by decide) (by decide)).WI (by decide) (by decide)).WL (by decide) (by decide)).WL (by decide) (by decide)
  refine mGo_callV ok rfl (by omega) (c_attack18 (d := d) (c := 0) (o := 0) (man := mn) hf (cF_fr fr0 (Or.inl (by decide)) hc) (by simp [WL_at]) (by simp [WL_at]) (show (mWI (mWI (mWI (mWI (mWI σ 15 4 0) 15 5 0) 15 3 0) 15 4 1) 18 4 (nI mn)).1 18 4 = nI mn by simp [WI_at]) hm1 hfn k0 (r := r) (by omega)) (fun σ2 hσ2 => ?_)
  refine mGo_run (n := 400) ok rfl ?_
  have fr1 : fr 15 21 σ σ2 := by rw [hσ2]; exact (fr0.WL (by decide) (by decide)).WL (by decide) (by decide)
  rw [show σ2.2.1 18 7 = (atP2 F mn 0 0 f r).1 by rw [hσ2]; simp [WL_at], show σ2.2.1 18 8 = (atP2 F mn 0 0 f r).2 by rw [hσ2]; simp [WL_at]]
  refine mGo_callV ok rfl (by omega) (c_setUp18 (d := d) hf (cF_fr fr1 (Or.inl (by decide)) hc) (atP2 F mn 0 0 f r).1 (atP2 F mn 0 0 f r).2) (fun σ3 hσ3 => ?_)
  obtain ⟨s1, s2, s3, s4, s5, s6⟩ := hσ3
  have e15 := (s1 15 (by decide)).1
  refine mGo_run (n := 400) ok rfl ?_
  refine mGo_ret ok rfl trivial ⟨rfl, rfl, fr1.trans (s1.wide (by decide) (by decide)), ?_, ?_, ?_, fun _ => ⟨fun i hi => absurd hi (Nat.not_lt_zero i), ?_, s3, s4, s6⟩⟩
  · rw [e15, hσ2]; show (mWI (mWI (mWI (mWI (mWI σ 15 4 0) 15 5 0) 15 3 0) 15 4 1) 18 4 (nI mn)).1 15 4 = _; simp [WI_at, bI]
  · rw [e15, hσ2]; show (mWI (mWI (mWI (mWI (mWI σ 15 4 0) 15 5 0) 15 3 0) 15 4 1) 18 4 (nI mn)).1 15 5 = _; simp [WI_at, bI]
  · rw [e15, hσ2]; show (mWI (mWI (mWI (mWI (mWI σ 15 4 0) 15 5 0) 15 3 0) 15 4 1) 18 4 (nI mn)).1 15 3 = _; simp [WI_at]; rfl
  · rw [s2 4 (by decide), hσ2]; show (mWI (mWI (mWI (mWI (mWI σ 15 4 0) 15 5 0) 15 3 0) 15 4 1) 18 4 (nI mn)).1 18 4 = _; simp [WI_at]
theorem c_advance (hf : fOk F) (hc : cF σ F) (hD : cD σ F true false k man ps) (hk : k ≤ 20) (hm1 : man ≤ 1) (m r : Int32) : mNR g l (d + 4) 15 [.ref 15, .int m, .int r] lk ex σ (.int (aPl F k man ps m r).1) (fun σ1 => fr 15 21 σ σ1 ∧ cD σ1 F true (aPl F k man ps m r).2.1 (aPl F k man ps m r).2.2.1 man (aPl F k man ps m r).2.2.2) := by
  have hD0 := hD
  obtain ⟨d1, d2, d3, d4⟩ := hD0
  obtain ⟨f1, f2, f3, f4, f5⟩ := d4 rfl
  have hml := mvs_len hf (ps k).1 (ps k).2
  rw [if_pos rfl] at d3
  have ok : mOkP md_X1_advance := ok_at 15 (by decide) rfl
  refine mC_of (md := md_X1_advance) rfl (lt_at (by decide)) rfl ?_
  refine mGo_run (n := 400) ok rfl ?_
  refine mGo_callP ok rfl (by omega) (c_isOn (d := d) hD) ?_
  refine mGo_if ok rfl (fun h => ?_) (fun h => ?_)
  · exact absurd h (by decide)
  refine mGo_run (n := 400) ok rfl ?_
  rcases mvA_cases (mvs F (ps k).1 (ps k).2) hml m with ⟨e1, e2⟩ | ⟨i, q, rfl, hi, e1⟩
  · have ea : aPl F k man ps m r = (-5, false, k, ps) := by unfold aPl; rw [e1]
    rw [ea]
    refine mGo_callP ok rfl (by omega) (c_hasMove018 (d := d) f5.1 (by omega) e2) ?_
    refine mGo_if ok rfl (fun h1 => ?_) (fun h1 => ?_)
    · refine mGo_run (n := 400) ok rfl ?_
      exact mGo_ret ok rfl trivial (⟨rfl, rfl, fr.refl, hD⟩)
    · exact absurd rfl h1
  · have hil := (List.getElem?_eq_some_iff.mp hi).1
    have ho := mvs_at hf hi
    have hr3 := rpN_le F q
    refine mGo_callP ok rfl (by omega) (c_hasMove118 (d := d) f5.1 (by omega) hil) ?_
    refine mGo_if ok rfl (fun h1 => ?_) (fun h1 => ?_)
    · exact absurd h1 (by decide)
    refine mGo_run (n := 400) ok rfl ?_
    refine mGo_callP ok rfl (by omega) (c_repliesTo18 (d := d) hf hc f5 (by omega) hi ho) ?_
    refine mGo_run (n := 400) ok rfl ?_
    have go : (rpN F q ≠ 0 → 0 ≤ r ∧ r < nI (rpN F q)) → mGo g l (d + 4) md_X1_advance (SH lk ex).length (mTot (SH lk ex)) (48, [some (.ref 15), some (.int (nI i)), some (.int r), some (.int (nI (rpN F q)))], [], SH lk ex, σ) (fun r1 sp σ1 => r1 = some (.int (aPl F k man ps (nI i) r).1) ∧ sp = SH lk ex ∧ (fr 15 21 σ σ1 ∧ cD σ1 F true (aPl F k man ps (nI i) r).2.1 (aPl F k man ps (nI i) r).2.2.1 man (aPl F k man ps (nI i) r).2.2.2)) := by
      intro hr
      have ef : k = 20 → aPl F k man ps (nI i) r = (-3, false, k, ps) := by
        intro z
        unfold aPl
        rw [e1]
        by_cases y : rpN F q = 0
        · simp only [if_pos y, if_pos z]
        · simp only [if_neg y, if_pos z]
          rw [if_neg (fun t => t (hr y))]
      refine mGo_run (n := 400) ok rfl ?_
      rw [d3]
      refine mGo_ifI ok rfl (nI_ltI (a := k) (b := 20) (by omega) (by omega)) (fun h2 => ?_) (fun h2 => ?_)
      · refine mGo_run (n := 400) ok rfl ?_
        rw [d3]
        refine mGo_side ok rfl (nI_in (by omega) (by omega)) ?_
        rw [nI_clamp (by omega)]
        refine mGo_run (n := 400) ok rfl ?_
        rw [show (mWL σ 16 k (σ.2.1 18 5)).1 15 3 = nI k from d3]
        refine mGo_side ok rfl (nI_in (by omega) (by omega)) ?_
        rw [nI_clamp (by omega)]
        refine mGo_run (n := 400) ok rfl ?_
        rw [show (mWL (mWL σ 16 k (σ.2.1 18 5)) 17 k ((mWL σ 16 k (σ.2.1 18 5)).2.1 18 6)).1 15 3 = nI k from d3, show (mWL σ 16 k (σ.2.1 18 5)).2.1 18 6 = (ps k).2 by simp [WL_at, f4], f3, nI_1]
        have fr0 : fr 15 21 σ (mWI (mWL (mWL σ 16 k (ps k).1) 17 k (ps k).2) 15 3 (nI (k + 1))) := ((fr.refl.WL (by decide) (by decide)).WL (by decide) (by decide)).WI (by decide) (by decide)
        have past : ∀ (p : Int64 × Int64), ∀ i, i < k + 1 → (mWI (mWL (mWL σ 16 k (ps k).1) 17 k (ps k).2) 15 3 (nI (k + 1))).2.1 16 i = (upP ps (k + 1) p i).1 ∧ (mWI (mWL (mWL σ 16 k (ps k).1) 17 k (ps k).2) 15 3 (nI (k + 1))).2.1 17 i = (upP ps (k + 1) p i).2 := by
          intro p i hi
          show (mWL (mWL σ 16 k (ps k).1) 17 k (ps k).2).2.1 16 i = _ ∧ (mWL (mWL σ 16 k (ps k).1) 17 k (ps k).2).2.1 17 i = _
          have ne : ¬ i = k + 1 := by omega
          simp only [upP, if_neg ne]
          by_cases z : i = k
          · subst z; constructor <;> simp [WL_at]
          · obtain ⟨g1, g2⟩ := f1 i (by omega)
            constructor
            · simpa [WL_at, z] using g1
            · simpa [WL_at, z] using g2
        refine mGo_ifI ok rfl (nI_eq (a := rpN F q) (b := 0) (by omega) (by omega)) (fun h3 => ?_) (fun h3 => ?_)
        · have ea : aPl F k man ps (nI i) r = (1000, true, k + 1, upP ps (k + 1) (ps k)) := by
            unfold aPl; rw [e1]; simp only [if_pos h3]; rw [if_neg (by omega)]
          rw [ea]
          refine mGo_run (n := 400) ok rfl ?_
          refine mGo_side ok rfl (Or.inr rfl) ?_
          refine mGo_run (n := 400) ok rfl ?_
          refine mGo_ret ok rfl trivial ⟨rfl, rfl, fr0.WI (by decide) (by decide), ?_, ?_, ?_, fun _ => ⟨past (ps k), ?_, ?_, ?_, ?_⟩⟩
          · rw [WI_at, if_neg (by omega), WI_at, if_neg (by omega)]; exact d1
          · rw [WI_at, if_pos ⟨rfl, rfl⟩]; rfl
          · rw [WI_at, if_neg (by omega), WI_at, if_pos ⟨rfl, rfl⟩, if_pos rfl]
          · rw [WI_at, if_neg (by omega), WI_at, if_neg (by omega)]; exact f2
          · simp only [upP, if_pos]; show (mWL (mWL σ 16 k (ps k).1) 17 k (ps k).2).2.1 18 5 = _; simp [WL_at, f3]
          · simp only [upP, if_pos]; show (mWL (mWL σ 16 k (ps k).1) 17 k (ps k).2).2.1 18 6 = _; simp [WL_at, f4]
          · simp only [upP, if_pos]
            have frx : fr 15 18 σ (mWI (mWI (mWL (mWL σ 16 k (ps k).1) 17 k (ps k).2) 15 3 (nI (k + 1))) 15 5 1) := (((fr.refl.WL (by decide) (by decide)).WL (by decide) (by decide)).WI (by decide) (by decide)).WI (by decide) (by decide)
            exact bM_fr frx (by omega) f5
        · obtain ⟨ra, rb⟩ := hr h3
          obtain ⟨rn, hrn, rfl⟩ := (i_in (n := rpN F q) (by omega)).mp ⟨ra, rb⟩
          have ea : aPl F k man ps (nI i) (nI rn) = (nI (mvs F (rpP F man (ps k).1 (ps k).2 q rn).1 (rpP F man (ps k).1 (ps k).2 q rn).2).length, false, k + 1, upP ps (k + 1) (rpP F man (ps k).1 (ps k).2 q rn)) := by
            unfold aPl; rw [e1]; simp only [if_neg h3]; rw [if_neg (fun t => t (hr h3)), if_neg (by omega), nI_clamp (by omega)]
          rw [ea]
          have fry : fr 15 18 σ (mWI (mWL (mWL σ 16 k (ps k).1) 17 k (ps k).2) 15 3 (nI (k + 1))) := ((fr.refl.WL (by decide) (by decide)).WL (by decide) (by decide)).WI (by decide) (by decide)
          have fb := bM_fr fry (by omega) f5
          refine mGo_run (n := 400) ok rfl ?_
          refine mGo_callV ok rfl (by omega) (c_answer18 (d := d) hf (cF_fr fr0 (Or.inl (by decide)) hc) (c := (ps k).1) (o := (ps k).2) (man := man) (by rw [(fry 18 (by omega)).2.1]; exact f3) (by rw [(fry 18 (by omega)).2.1]; exact f4) (by rw [(fry 18 (by omega)).1]; exact f2) hm1 fb (by omega) hi ho hrn) (fun σ1 hσ1 => ?_)
          refine mGo_run (n := 400) ok rfl ?_
          have fr1 : fr 15 21 σ σ1 := by rw [hσ1]; exact (fr0.WL (by decide) (by decide)).WL (by decide) (by decide)
          rw [show σ1.2.1 18 7 = (rpP F man (ps k).1 (ps k).2 q rn).1 by rw [hσ1]; simp [WL_at], show σ1.2.1 18 8 = (rpP F man (ps k).1 (ps k).2 q rn).2 by rw [hσ1]; simp [WL_at]]
          refine mGo_callV ok rfl (by omega) (c_setUp18 (d := d) hf (cF_fr fr1 (Or.inl (by decide)) hc) (rpP F man (ps k).1 (ps k).2 q rn).1 (rpP F man (ps k).1 (ps k).2 q rn).2) (fun σ2 hσ2 => ?_)
          obtain ⟨s1, s2, s3, s4, s5, s6⟩ := hσ2
          have e15 := (s1 15 (by decide)).1
          have e16 := (s1 16 (by decide)).2.1
          have e17 := (s1 17 (by decide)).2.1
          refine mGo_run (n := 400) ok rfl ?_
          rw [s6.1]
          refine mGo_ret ok rfl trivial ⟨rfl, rfl, fr1.trans (s1.wide (by decide) (by decide)), ?_, ?_, ?_, fun _ => ⟨fun j hj => ?_, ?_, ?_, ?_, ?_⟩⟩
          · rw [e15, hσ1]; show (mWI (mWL (mWL σ 16 k (ps k).1) 17 k (ps k).2) 15 3 (nI (k + 1))).1 15 4 = _; rw [WI_at, if_neg (by omega)]; exact d1
          · rw [e15, hσ1]; show (mWI (mWL (mWL σ 16 k (ps k).1) 17 k (ps k).2) 15 3 (nI (k + 1))).1 15 5 = _; rw [WI_at, if_neg (by omega)]; exact d2
          · rw [e15, hσ1]; show (mWI (mWL (mWL σ 16 k (ps k).1) 17 k (ps k).2) 15 3 (nI (k + 1))).1 15 3 = _; rw [WI_at, if_pos ⟨rfl, rfl⟩, if_pos rfl]
          · rw [e16, e17, hσ1]
            obtain ⟨p1, p2⟩ := past (rpP F man (ps k).1 (ps k).2 q rn) j hj
            rw [← p1, ← p2]
            constructor <;> simp [WL_at]
          · rw [s2 4 (by decide), hσ1]; show (mWI (mWL (mWL σ 16 k (ps k).1) 17 k (ps k).2) 15 3 (nI (k + 1))).1 18 4 = _; rw [WI_at, if_neg (by omega)]; exact f2
          · simp only [upP, if_pos]; exact s3
          · simp only [upP, if_pos]; exact s4
          · simp only [upP, if_pos]; exact s6
      · have e20 : k = 20 := by omega
        rw [ef e20]
        refine mGo_run (n := 400) ok rfl ?_
        exact mGo_ret ok rfl trivial (⟨rfl, rfl, fr.refl, hD⟩)
    have bad : rpN F q ≠ 0 → ¬ (0 ≤ r ∧ r < nI (rpN F q)) → mGo g l (d + 4) md_X1_advance (SH lk ex).length (mTot (SH lk ex)) (46, [some (.ref 15), some (.int (nI i)), some (.int r), some (.int (nI (rpN F q)))], [], SH lk ex, σ) (fun r1 sp σ1 => r1 = some (.int (aPl F k man ps (nI i) r).1) ∧ sp = SH lk ex ∧ (fr 15 21 σ σ1 ∧ cD σ1 F true (aPl F k man ps (nI i) r).2.1 (aPl F k man ps (nI i) r).2.2.1 man (aPl F k man ps (nI i) r).2.2.2)) := by
      intro z y
      have ea : aPl F k man ps (nI i) r = (-1, false, k, ps) := by
        unfold aPl; rw [e1]; simp only [if_neg z]; rw [if_pos y]
      rw [ea]
      refine mGo_run (n := 400) ok rfl ?_
      exact mGo_ret ok rfl trivial (⟨rfl, rfl, fr.refl, hD⟩)
    refine mGo_ifI ok rfl (nI_leI (a := rpN F q) (b := 0) (by omega) (by omega)) (fun h2 => ?_) (fun h2 => ?_)
    · exact go (fun z => by omega)
    · refine mGo_run (n := 400) ok rfl ?_
      refine mGo_if ok rfl (fun h3 => ?_) (fun h3 => ?_)
      · exact bad (by omega) (fun z => absurd h3 (Int32.not_lt.mpr z.1))
      · refine mGo_run (n := 400) ok rfl ?_
        refine mGo_if ok rfl (fun h4 => ?_) (fun h4 => ?_)
        · exact go (fun _ => ⟨Int32.not_lt.mp h3, h4⟩)
        · exact bad (by omega) (fun z => h4 z.2)
end T
