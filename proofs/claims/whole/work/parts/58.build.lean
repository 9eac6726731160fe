/-! the class TextReader: a text is read -/
section T
variable {g : mG} {l : Launch} {d : Nat} {lk : Nat} {ex : mSh} {σ : mHp} {T : aI} {F : aF}
/-- joining where there was no room -/
theorem c_joinU {ops : List Nat} (h : cU σ ops F) {c : Nat} (hc : 1 ≤ c ∧ c ≤ 4) : mNV g l (d + 2) 64 [.ref 10, .int (nI c)] lk ex σ (fun σ1 => frT σ σ1 ∧ cU σ1 ops F) := by
  have h0 := h
  obtain ⟨o1, ⟨n, hn, v1⟩, u1, f1, s1, k1, p1, q1⟩ := h0
  have ok : mOkP md_X6_join := ok_at 64 (by decide) rfl
  refine mC_of (md := md_X6_join) rfl (lt_at (by decide)) rfl ?_
  have fin : ∀ (τ : mHp) (x nd sc : Int32) (m : Nat), τ.1 10 4 = nI m → m < 40 → oA τ ops → τ.1 10 5 = 1 → cF τ F → cS τ F → frT σ τ → mGo g l (d + 2) md_X6_join (SH lk ex).length (mTot (SH lk ex)) (69, [some (.ref 10), some (.int (nI c)), some (.int nd), some (.int sc), none], [.int x], SH lk ex, τ) (fun r sp σ1 => r = none ∧ sp = SH lk ex ∧ (frT σ σ1 ∧ cU σ1 ops F)) := by
    intro τ x nd sc m a1 a2 a4 a5 a6 a7 a13
    have push : ∀ (τ : mHp), τ.1 10 4 = nI m → oA τ ops → τ.1 10 5 = 1 → cF τ F → cS τ F → frT σ τ → mGo g l (d + 2) md_X6_join (SH lk ex).length (mTot (SH lk ex)) (81, [some (.ref 10), some (.int (nI c)), some (.int nd), some (.int sc), some (.int x)], [], SH lk ex, τ) (fun r sp σ1 => r = none ∧ sp = SH lk ex ∧ (frT σ σ1 ∧ cU σ1 ops F)) := by
      intro τ a1 a4 a5 a6 a7 a13
      refine mGo_run (n := 400) ok rfl ?_
      refine mGo_callV ok rfl (by omega) (c_pushOperand (d := d) (n := m) a1 a2 x) (fun τ1 hτ1 => ?_)
      subst hτ1
      refine mGo_run (n := 400) ok rfl ?_
      refine mGo_ret ok rfl trivial ⟨rfl, rfl, (a13.WI (by omega)).WI (by omega), oA_W (oA_W a4 (by omega) (by omega)) (by omega) (by omega), ⟨m + 1, by omega, by rw [WI_at, if_pos ⟨rfl, rfl⟩]⟩, ?_, cF_W (by omega) (cF_W (by omega) a6), cS_W (by omega) (cS_W (by omega) a7), k1, p1, q1⟩
      rw [WI_at, if_neg (by omega), WI_at, if_neg (by omega)]; exact a5
    refine mGo_run (n := 400) ok rfl ?_
    refine mGo_if ok rfl (fun h1 => ?_) (fun h1 => ?_)
    · exact push τ a1 a4 a5 a6 a7 a13
    · refine mGo_run (n := 400) ok rfl ?_
      refine mGo_side ok rfl (Or.inr rfl) ?_
      exact push (mWI τ 10 5 1) (by rw [WI_at, if_neg (by omega)]; exact a1) (oA_W a4 (by omega) (by omega)) (by rw [WI_at, if_pos ⟨rfl, rfl⟩]) (cF_W (by omega) a6) (cS_W (by omega) a7) (a13.WI (by omega))
  have mk : ∀ (m : Nat) (nd sc : Int32), m < 40 → (c = 1 → sc = -1) → mGo g l (d + 2) md_X6_join (SH lk ex).length (mTot (SH lk ex)) (50, [some (.ref 10), some (.int (nI c)), some (.int nd), none, none], [.int sc], SH lk ex, mWI σ 10 4 (nI m)) (fun r sp σ1 => r = none ∧ sp = SH lk ex ∧ (frT σ σ1 ∧ cU σ1 ops F)) := by
    intro m nd sc hm hsc
    refine mGo_run (n := 400) ok rfl ?_
    rw [show (mWI σ 10 4 (nI m)).1 10 4 = nI m by rw [WI_at, if_pos ⟨rfl, rfl⟩]]
    refine mGo_side ok rfl (nI_in (by omega) (by omega)) ?_
    refine mGo_run (n := 400) ok rfl ?_
    refine mGo_call ok rfl (by omega) (c_make_full (d := d) k1 (cF_W (by omega) f1) (cS_W (by omega) s1) q1 hc _ sc hsc) (fun r sp τ1 hq => ?_)
    obtain ⟨v, rfl, rfl, g1, g2, g3⟩ := hq
    have e10 := (g1 10 (by omega)).1
    have e11 := (g1 11 (by omega)).1
    refine fin τ1 v nd sc m ?_ hm ⟨?_, fun i x hx => ?_⟩ ?_ g2 g3 ((frT.refl.WI (by omega)).trans (frT_F g1))
    · rw [e10, WI_at, if_pos ⟨rfl, rfl⟩]
    · rw [e10, WI_at, if_neg (by omega)]; exact o1.1
    · rw [e11, WI_at, if_neg (by omega)]; exact o1.2 i x hx
    · rw [e10, WI_at, if_neg (by omega)]; exact u1
  refine mGo_run (n := 400) ok rfl ?_
  refine mGo_ifI ok rfl (nI_eq (a := c) (b := 1) (by omega) (by omega)) (fun hc1 => ?_) (fun hc1 => ?_)
  · refine mGo_run (n := 400) ok rfl ?_
    rw [v1]
    refine mGo_ifI ok rfl (nI_leI (a := 1) (b := n) (by omega) (by omega)) (fun h2 => ?_) (fun h2 => ?_)
    · refine mGo_run (n := 400) ok rfl ?_
      rw [v1, show nI n - 1 = nI (n - 1) by have := nI_pred (n - 1); rw [show n - 1 + 1 = n by omega] at this; exact this]
      refine mGo_if ok rfl (fun h3 => ?_) (fun h3 => ?_)
      · refine mGo_runS 50 (n := 400) ok rfl ?_
        exact mk (n - 1) 1 (-1) (by omega) (fun _ => rfl)
      · exact absurd rfl h3
    · refine mGo_run (n := 400) ok rfl ?_
      exact mGo_ret ok rfl trivial (⟨rfl, rfl, frT.refl, h⟩)
  · refine mGo_run (n := 400) ok rfl ?_
    rw [v1]
    refine mGo_ifI ok rfl (nI_leI (a := 2) (b := n) (by omega) (by omega)) (fun h2 => ?_) (fun h2 => ?_)
    · refine mGo_run (n := 400) ok rfl ?_
      rw [v1, show nI n - 2 = nI (n - 2) by rw [show (2 : Int32) = nI 2 from rfl, pk_sub h2]]
      refine mGo_if ok rfl (fun h3 => ?_) (fun h3 => ?_)
      · exact absurd h3 (by decide)
      · refine mGo_run (n := 400) ok rfl ?_
        rw [show (mWI σ 10 4 (nI (n - 2))).1 10 4 = nI (n - 2) by rw [WI_at, if_pos ⟨rfl, rfl⟩], nI_1]
        refine mGo_side ok rfl (nI_in (by omega) (by omega)) ?_
        exact mk (n - 2) 2 _ (by omega) (fun z => absurd z hc1)
    · refine mGo_run (n := 400) ok rfl ?_
      exact mGo_ret ok rfl trivial (⟨rfl, rfl, frT.refl, h⟩)
theorem c_joinUpToU {L : Nat} (hL : L ≤ 4) : ∀ {ops : List Nat} {σ : mHp}, cU σ ops F → ops.length ≤ 40 → mNV g l (d + 3) 63 [.ref 10, .int (nI L)] lk ex σ (fun σ1 => frT σ σ1 ∧ ∃ o, o.length ≤ ops.length ∧ cU σ1 o F) := by
  intro ops0 σ h hl
  have ok : mOkP md_X6_joinUpTo := ok_at 63 (by decide) rfl
  refine mC_of (md := md_X6_joinUpTo) rfl (lt_at (by decide)) rfl ?_
  refine mGo_runS 5 (n := 400) ok rfl ?_
  rw [h.1.1]
  have loop : ∀ (ops : List Nat) (τ : mHp) (L3 : Option Value), cU τ ops F → ops.length ≤ ops0.length → frT σ τ → mGo g l (d + 3) md_X6_joinUpTo (SH lk ex).length (mTot (SH lk ex)) (5, [some (.ref 10), some (.int (nI L)), some (.int (nI ops.length)), L3], [], SH lk ex, τ) (fun r sp σ1 => r = none ∧ sp = SH lk ex ∧ (frT σ σ1 ∧ ∃ o, o.length ≤ ops0.length ∧ cU σ1 o F)) := by
    intro ops
    induction ops with
    | nil =>
      intro τ L3 hu hle t
      refine mGo_run (n := 400) ok rfl ?_
      refine mGo_if ok rfl (fun h1 => ?_) (fun h1 => ?_)
      · refine mGo_run (n := 400) ok rfl ?_
        exact mGo_ret ok rfl trivial (⟨rfl, rfl, t, [], by simp, hu⟩)
      · exact absurd (by decide) h1
    | cons c ops ih =>
      intro τ L3 hu hle t
      have hle2 : ops.length + 1 ≤ ops0.length := by simpa using hle
      obtain ⟨o1, v1, u1, f1, s1, k1, p1, q1⟩ := hu
      have hc := p1 c List.mem_cons_self
      have hat := o1.2 _ _ rev_top
      refine mGo_run (n := 400) ok rfl ?_
      refine mGo_ifI ok rfl (nI_leI (a := (c :: ops).length) (b := 0) (by omega) (by omega)) (fun h1 => ?_) (fun h1 => ?_)
      · simp at h1
      · refine mGo_run (n := 400) ok rfl ?_
        rw [show nI (c :: ops).length - 1 = nI ops.length by rw [List.length_cons]; exact nI_pred _]
        refine mGo_side ok rfl (nI_in (by omega) (by omega)) ?_
        rw [nI_clamp (n := ops.length) (by omega), hat]
        refine mGo_run (n := 400) ok rfl ?_
        refine mGo_ifI ok rfl (nI_leI (a := c) (b := L) (by omega) (by omega)) (fun h2 => ?_) (fun h2 => ?_)
        · refine mGo_run (n := 400) ok rfl ?_
          rw [show nI (c :: ops).length - 1 = nI ops.length by rw [List.length_cons]; exact nI_pred _]
          have hu2 : cU (mWI τ 10 3 (nI ops.length)) ops F := by
            refine ⟨oA_tail o1 (by rw [WI_at, if_pos ⟨rfl, rfl⟩]) (by funext z; rw [WI_at, if_neg (by omega)]), ?_, ?_, cF_W (by omega) f1, cS_W (by omega) s1, k1, fun x hx => p1 x (List.mem_cons_of_mem _ hx), q1⟩
            · obtain ⟨n, hn, e⟩ := v1
              exact ⟨n, hn, by rw [WI_at, if_neg (by omega)]; exact e⟩
            · rw [WI_at, if_neg (by omega)]; exact u1
          refine mGo_callV ok rfl (by omega) (c_joinU (d := d) hu2 ⟨hc.1, by omega⟩) (fun τ2 hτ2 => ?_)
          refine mGo_runS 5 (n := 400) ok rfl ?_
          rw [show nI (c :: ops).length + (-1) = nI ops.length by rw [List.length_cons]; exact pk_m1 _]
          exact ih τ2 _ hτ2.2 (by omega) ((t.WI (by omega)).trans hτ2.1)
        · refine mGo_run (n := 400) ok rfl ?_
          exact mGo_ret ok rfl trivial (⟨rfl, rfl, t, c :: ops, hle, o1, v1, u1, f1, s1, k1, p1, q1⟩)
  exact loop ops0 σ none h (Nat.le_refl _) frT.refl
/-- what joinUpTo comes to -/
def uP (σ1 : mHp) (n : Nat) (F : aF) (o : Option (List Nat × List Nat × aF)) : Prop := match o with
  | none => ∃ o F1, cU σ1 o F1 ∧ fle F F1 ∧ o.length ≤ n
  | some (o, v, F1) => cT σ1 o v F1 ∧ fle F F1
theorem jn_len {c : Nat} {vals v1 : List Nat} {F F1 : aF} (h : jn c vals F = some (v1, F1)) : v1.length ≤ vals.length := by
  unfold jn at h
  by_cases hc : c = 1
  · rw [if_pos hc] at h
    cases vals with
    | nil => cases h; simp
    | cons a t =>
      simp only at h
      cases e : mkS F 1 a 0 with
      | none => rw [e] at h; cases h
      | some x => rw [e] at h; cases h; simp
  · rw [if_neg hc] at h
    match vals, h with
    | [], h => cases h; simp
    | [b], h => cases h; simp
    | b :: a :: t, h =>
      simp only at h
      cases e : mkS F c a b with
      | none => rw [e] at h; cases h
      | some x => rw [e] at h; cases h; simp
theorem JU_len {L : Nat} : ∀ {ops vals : List Nat} {F : aF} {o v : List Nat} {F1 : aF}, JU L ops vals F = some (o, v, F1) → o.length ≤ ops.length ∧ v.length ≤ vals.length := by
  intro ops
  induction ops with
  | nil => intro vals F o v F1 h; simp only [JU] at h; cases h; simp
  | cons c ops ih =>
    intro vals F o v F1 h
    simp only [JU] at h
    split at h
    · cases e : jn c vals F with
      | none => rw [e] at h; cases h
      | some x =>
        obtain ⟨v1, F2⟩ := x
        rw [e] at h
        have h1 := ih h
        have h2 := jn_len e
        simp
        omega
    · cases h; simp
theorem c_joinUpTo {L : Nat} (hL : L ≤ 4) {ops0 vals0 : List Nat} (h : cT σ ops0 vals0 F) (hl : ops0.length ≤ 40) (hv : vals0.length ≤ 40) : mNV g l (d + 3) 63 [.ref 10, .int (nI L)] lk ex σ (fun σ1 => frT σ σ1 ∧ uP σ1 ops0.length F (JU L ops0 vals0 F)) := by
  have ok : mOkP md_X6_joinUpTo := ok_at 63 (by decide) rfl
  refine mC_of (md := md_X6_joinUpTo) rfl (lt_at (by decide)) rfl ?_
  refine mGo_runS 5 (n := 400) ok rfl ?_
  rw [h.1.1]
  have full : ∀ (ops : List Nat) (τ : mHp) (F1 : aF) (L3 : Option Value), cU τ ops F1 → fle F F1 → ops.length ≤ ops0.length → frT σ τ → mGo g l (d + 3) md_X6_joinUpTo (SH lk ex).length (mTot (SH lk ex)) (5, [some (.ref 10), some (.int (nI L)), some (.int (nI ops.length)), L3], [], SH lk ex, τ) (fun r sp σ1 => r = none ∧ sp = SH lk ex ∧ (frT σ σ1 ∧ ∃ o F1, cU σ1 o F1 ∧ fle F F1 ∧ o.length ≤ ops0.length)) := by
    intro ops
    induction ops with
    | nil =>
      intro τ F1 L3 hu hfl hle t
      refine mGo_run (n := 400) ok rfl ?_
      refine mGo_if ok rfl (fun h1 => ?_) (fun h1 => ?_)
      · refine mGo_run (n := 400) ok rfl ?_
        exact mGo_ret ok rfl trivial (⟨rfl, rfl, t, [], F1, hu, hfl, by simp⟩)
      · exact absurd (by decide) h1
    | cons c ops ih =>
      intro τ F1 L3 hu hfl hle t
      have hle2 : ops.length + 1 ≤ ops0.length := by simpa using hle
      obtain ⟨o1, v1, u1, f1, s1, k1, p1, q1⟩ := hu
      have hc := p1 c List.mem_cons_self
      have hat := o1.2 _ _ rev_top
      refine mGo_run (n := 400) ok rfl ?_
      refine mGo_ifI ok rfl (nI_leI (a := (c :: ops).length) (b := 0) (by omega) (by omega)) (fun h1 => ?_) (fun h1 => ?_)
      · simp at h1
      · refine mGo_run (n := 400) ok rfl ?_
        rw [show nI (c :: ops).length - 1 = nI ops.length by rw [List.length_cons]; exact nI_pred _]
        refine mGo_side ok rfl (nI_in (by omega) (by omega)) ?_
        rw [nI_clamp (n := ops.length) (by omega), hat]
        refine mGo_run (n := 400) ok rfl ?_
        refine mGo_ifI ok rfl (nI_leI (a := c) (b := L) (by omega) (by omega)) (fun h2 => ?_) (fun h2 => ?_)
        · refine mGo_run (n := 400) ok rfl ?_
          rw [show nI (c :: ops).length - 1 = nI ops.length by rw [List.length_cons]; exact nI_pred _]
          have hu2 : cU (mWI τ 10 3 (nI ops.length)) ops F1 := by
            refine ⟨oA_tail o1 (by rw [WI_at, if_pos ⟨rfl, rfl⟩]) (by funext z; rw [WI_at, if_neg (by omega)]), ?_, ?_, cF_W (by omega) f1, cS_W (by omega) s1, k1, fun x hx => p1 x (List.mem_cons_of_mem _ hx), q1⟩
            · obtain ⟨n, hn, e⟩ := v1
              exact ⟨n, hn, by rw [WI_at, if_neg (by omega)]; exact e⟩
            · rw [WI_at, if_neg (by omega)]; exact u1
          refine mGo_callV ok rfl (by omega) (c_joinU (d := d) hu2 ⟨hc.1, by omega⟩) (fun τ2 hτ2 => ?_)
          refine mGo_runS 5 (n := 400) ok rfl ?_
          rw [show nI (c :: ops).length + (-1) = nI ops.length by rw [List.length_cons]; exact pk_m1 _]
          exact ih τ2 F1 _ hτ2.2 hfl (by omega) ((t.WI (by omega)).trans hτ2.1)
        · refine mGo_run (n := 400) ok rfl ?_
          exact mGo_ret ok rfl trivial (⟨rfl, rfl, t, c :: ops, F1, ⟨o1, v1, u1, f1, s1, k1, p1, q1⟩, hfl, hle⟩)
  have loop : ∀ (ops vals : List Nat) (F1 : aF) (τ : mHp) (L3 : Option Value), cT τ ops vals F1 → fle F F1 → ops.length ≤ ops0.length → vals.length ≤ 40 → frT σ τ → mGo g l (d + 3) md_X6_joinUpTo (SH lk ex).length (mTot (SH lk ex)) (5, [some (.ref 10), some (.int (nI L)), some (.int (nI ops.length)), L3], [], SH lk ex, τ) (fun r sp σ1 => r = none ∧ sp = SH lk ex ∧ (frT σ σ1 ∧ uP σ1 ops0.length F (JU L ops vals F1))) := by
    intro ops
    induction ops with
    | nil =>
      intro vals F1 τ L3 hu hfl hle hvl t
      refine mGo_run (n := 400) ok rfl ?_
      refine mGo_if ok rfl (fun h1 => ?_) (fun h1 => ?_)
      · refine mGo_run (n := 400) ok rfl ?_
        exact mGo_ret ok rfl trivial (⟨rfl, rfl, t, hu, hfl⟩)
      · exact absurd (by decide) h1
    | cons c ops ih =>
      intro vals F1 τ L3 hu hfl hle hvl t
      have hle2 : ops.length + 1 ≤ ops0.length := by simpa using hle
      have hu0 := hu
      obtain ⟨o1, v1, u1, f1, s1, k1, p1, q1⟩ := hu0
      have hc := p1 c List.mem_cons_self
      have hat := o1.2 _ _ rev_top
      refine mGo_run (n := 400) ok rfl ?_
      refine mGo_ifI ok rfl (nI_leI (a := (c :: ops).length) (b := 0) (by omega) (by omega)) (fun h1 => ?_) (fun h1 => ?_)
      · simp at h1
      · refine mGo_run (n := 400) ok rfl ?_
        rw [show nI (c :: ops).length - 1 = nI ops.length by rw [List.length_cons]; exact nI_pred _]
        refine mGo_side ok rfl (nI_in (by omega) (by omega)) ?_
        rw [nI_clamp (n := ops.length) (by omega), hat]
        refine mGo_run (n := 400) ok rfl ?_
        simp only [JU]
        refine mGo_ifI ok rfl (nI_leI (a := c) (b := L) (by omega) (by omega)) (fun h2 => ?_) (fun h2 => ?_)
        · rw [if_pos h2]
          refine mGo_run (n := 400) ok rfl ?_
          rw [show nI (c :: ops).length - 1 = nI ops.length by rw [List.length_cons]; exact nI_pred _]
          have hu2 : cT (mWI τ 10 3 (nI ops.length)) ops vals F1 := by
            refine ⟨oA_tail o1 (by rw [WI_at, if_pos ⟨rfl, rfl⟩]) (by funext z; rw [WI_at, if_neg (by omega)]), ⟨by rw [WI_at, if_neg (by omega)]; exact v1.1, fun i x hx => by rw [WI_at, if_neg (by omega)]; exact v1.2 i x hx⟩, ?_, cF_W (by omega) f1, cS_W (by omega) s1, k1, fun x hx => p1 x (List.mem_cons_of_mem _ hx), q1⟩
            rw [WI_at, if_neg (by omega)]; exact u1
          refine mGo_callV ok rfl (by omega) (c_join (d := d) hu2 hvl (c := c) ⟨hc.1, by omega⟩) (fun τ2 hτ2 => ?_)
          have t2 := (t.WI (i := 10) (j := 3) (v := nI ops.length) (by omega)).trans hτ2.1
          refine mGo_runS 5 (n := 400) ok rfl ?_
          rw [show nI (c :: ops).length + (-1) = nI ops.length by rw [List.length_cons]; exact pk_m1 _]
          have hj := hτ2.2
          cases e : jn c vals F1 with
          | none =>
            rw [e] at hj
            exact full ops τ2 F1 _ hj hfl (by omega) t2
          | some x =>
            obtain ⟨v2, F2⟩ := x
            rw [e] at hj
            exact ih v2 F2 τ2 _ hj.1 (hfl.trans hj.2) (by omega) (by have := jn_len e; omega) t2
        · rw [if_neg h2]
          refine mGo_run (n := 400) ok rfl ?_
          exact mGo_ret ok rfl trivial (⟨rfl, rfl, t, hu, hfl⟩)
  exact loop ops0 vals0 F σ none h fle.refl (Nat.le_refl _) hv frT.refl
end T
