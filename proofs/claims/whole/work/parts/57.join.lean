/-! the class TextReader: operators are joined -/
/-- what joining comes to -/
def jP (σ1 : mHp) (ops : List Nat) (F : aF) (o : Option (List Nat × aF)) : Prop := match o with
  | none => cU σ1 ops F
  | some (v1, F1) => cT σ1 ops v1 F1 ∧ fle F F1
theorem aMk_no {F : aF} (hf : fOk F) {c a b : Nat} (h : (aMk F c a b).1 = none) : (aMk F c a b).2 = F ∧ aN F = 40 := by
  refine ⟨aMk_none h, ?_⟩
  unfold aMk at h
  cases hF : fF F c a b with
  | some j => rw [hF] at h; cases h
  | none =>
    rw [hF] at h
    have := hf.2.1
    by_cases z : aN F < 40
    · simp [if_pos z] at h
    · omega
theorem nI_b3 {n : Nat} (h : n < 2 ^ 31) : (0 : Int32) ≤ nI n := nI_pos' h
section T
variable {g : mG} {l : Launch} {d : Nat} {lk : Nat} {ex : mSh} {σ : mHp} {T : aI} {F : aF}
theorem vA_push {σ : mHp} {t : List Nat} {v : Nat} (h : ∀ i x, t.reverse[i]? = some x → σ.1 12 i = nI x) : vA (mWI (mWI σ 12 t.length (nI v)) 10 4 (nI (t.length + 1))) (v :: t) := by
  refine ⟨by rw [WI_at, if_pos ⟨rfl, rfl⟩]; simp, fun i x hx => ?_⟩
  rw [WI_at, if_neg (by omega), WI_at]
  rcases rev_app hx with ⟨h1, h2⟩ | ⟨h1, h2⟩
  · rw [if_neg (by omega)]; exact h i x h2
  · rw [if_pos ⟨rfl, h1⟩, h2]
theorem oA_W {σ : mHp} {ops : List Nat} {i j : Nat} {v : Int32} (h : oA σ ops) (hi : i ≠ 11) (hj : i = 10 → j ≠ 3) : oA (mWI σ i j v) ops := by
  refine ⟨?_, fun k c hk => ?_⟩
  · rw [WI_at, if_neg (fun z => hj z.1.symm z.2.symm)]; exact h.1
  · rw [WI_at, if_neg (fun z => hi z.1.symm)]; exact h.2 k c hk
set_option maxHeartbeats 1000000 in
theorem c_join {ops vals : List Nat} (h : cT σ ops vals F) (hl : vals.length ≤ 40) {c : Nat} (hc : 1 ≤ c ∧ c ≤ 4) : mNV g l (d + 2) 64 [.ref 10, .int (nI c)] lk ex σ (fun σ1 => frT σ σ1 ∧ jP σ1 ops F (jn c vals F)) := by
  have h0 := h
  obtain ⟨o1, v1, u1, f1, s1, k1, p1, q1⟩ := h0
  have ok : mOkP md_X6_join := ok_at 64 (by decide) rfl
  refine mC_of (md := md_X6_join) rfl (lt_at (by decide)) rfl ?_
  have fin : ∀ (τ : mHp) (t : List Nat) (F1 : aF) (o : Option Nat) (nd sc : Int32), τ.1 10 4 = nI t.length → t.length < 40 → (∀ i x, t.reverse[i]? = some x → τ.1 12 i = nI x) → oA τ ops → τ.1 10 5 = 0 → cF τ F1 → cS τ F1 → fOk F1 → fle F F1 → (∀ v ∈ t, v < aN F1) → (∀ v, o = some v → v < aN F1) → (o = none → F1 = F ∧ aN F = 40) → frT σ τ → mGo g l (d + 2) md_X6_join (SH lk ex).length (mTot (SH lk ex)) (69, [some (.ref 10), some (.int (nI c)), some (.int nd), some (.int sc), none], [.int (oR o)], SH lk ex, τ) (fun r sp σ1 => r = none ∧ sp = SH lk ex ∧ (frT σ σ1 ∧ jP σ1 ops F (match o with
      | none => none
      | some v => some (v :: t, F1)))) := by
    intro τ t F1 o nd sc a1 a2 a3 a4 a5 a6 a7 a8 a9 a10 a11 a12 a13
    cases o with
    | none =>
      obtain ⟨rfl, h40⟩ := a12 rfl
      refine mGo_run (n := 400) ok rfl ?_
      refine mGo_if ok rfl (fun h1 => ?_) (fun h1 => ?_)
      · exact absurd h1 (by decide)
      · refine mGo_run (n := 400) ok rfl ?_
        refine mGo_side ok rfl (Or.inr rfl) ?_
        refine mGo_run (n := 400) ok rfl ?_
        refine mGo_callV ok rfl (by omega) (c_pushOperand (d := d) (n := t.length) (by rw [WI_at, if_neg (by omega)]; exact a1) a2 (-3)) (fun τ1 hτ1 => ?_)
        subst hτ1
        refine mGo_run (n := 400) ok rfl ?_
        refine mGo_ret ok rfl trivial ⟨rfl, rfl, ((a13.WI (by omega)).WI (by omega)).WI (by omega), oA_W (oA_W (oA_W a4 (by omega) (by omega)) (by omega) (by omega)) (by omega) (by omega), ⟨t.length + 1, by omega, by rw [WI_at, if_pos ⟨rfl, rfl⟩]⟩, ?_, cF_W (by omega) (cF_W (by omega) (cF_W (by omega) a6)), cS_W (by omega) (cS_W (by omega) (cS_W (by omega) a7)), a8, p1, h40⟩
        rw [WI_at, if_neg (by omega), WI_at, if_neg (by omega), WI_at, if_pos ⟨rfl, rfl⟩]
    | some v =>
      have hv := a11 v rfl
      have hn := a8.2.1
      refine mGo_run (n := 400) ok rfl ?_
      refine mGo_if ok rfl (fun h1 => ?_) (fun h1 => ?_)
      · refine mGo_run (n := 400) ok rfl ?_
        refine mGo_callV ok rfl (by omega) (c_pushOperand (d := d) (n := t.length) a1 a2 (nI v)) (fun τ1 hτ1 => ?_)
        subst hτ1
        refine mGo_run (n := 400) ok rfl ?_
        refine mGo_ret ok rfl trivial ⟨rfl, rfl, (a13.WI (by omega)).WI (by omega), ⟨oA_W (oA_W a4 (by omega) (by omega)) (by omega) (by omega), vA_push a3, ?_, cF_W (by omega) (cF_W (by omega) a6), cS_W (by omega) (cS_W (by omega) a7), a8, p1, fun x hx => ?_⟩, a9⟩
        · rw [WI_at, if_neg (by omega), WI_at, if_neg (by omega)]; exact a5
        · rcases List.mem_cons.mp hx with z | z
          · rw [z]; exact hv
          · exact a10 x z
      · exact absurd (nI_pos' (by omega)) h1
  have mk : ∀ (a b : Nat) (t : List Nat) (nd : Int32) (τ : mHp), a < aN F → b < aN F → (c = 1 → b = 0) → (∀ v ∈ t, v < aN F) → τ = mWI σ 10 4 (nI t.length) → t.length < 40 → (∀ i x, t.reverse[i]? = some x → σ.1 12 i = nI x) → σ.1 12 t.length = nI a → mGo g l (d + 2) md_X6_join (SH lk ex).length (mTot (SH lk ex)) (50, [some (.ref 10), some (.int (nI c)), some (.int nd), none, none], [.int (if c < 2 then -1 else nI b)], SH lk ex, τ) (fun r sp σ1 => r = none ∧ sp = SH lk ex ∧ (frT σ σ1 ∧ jP σ1 ops F (match mkS F c a b with
      | none => none
      | some (v, F1) => some (v :: t, F1)))) := by
    intro a b t nd τ ha hb hb1 ht e htl hv hva
    obtain ⟨m1, m2, m3⟩ := aMk_ok k1 hc ha hb hb1
    subst e
    refine mGo_run (n := 400) ok rfl ?_
    rw [show (mWI σ 10 4 (nI t.length)).1 10 4 = nI t.length by rw [WI_at, if_pos ⟨rfl, rfl⟩]]
    refine mGo_side ok rfl (nI_in (by omega) (by omega)) ?_
    rw [nI_clamp (by omega), show (mWI σ 10 4 (nI t.length)).1 12 t.length = nI a by rw [WI_at, if_neg (by omega)]; exact hva]
    refine mGo_run (n := 400) ok rfl ?_
    refine mGo_callR ok rfl (by omega) (c_make (d := d) k1 (cF_W (by omega) f1) (cS_W (by omega) s1) hc ha hb hb1) (fun τ1 hτ1 => ?_)
    obtain ⟨g1, g2, g3⟩ := hτ1
    have e10 := (g1 10 (by omega)).1
    have e11 := (g1 11 (by omega)).1
    have e12 := (g1 12 (by omega)).1
    have eqm : (match mkS F c a b with
      | none => none
      | some (v, F1) => some (v :: t, F1)) = (match (aMk F c a b).1 with
      | none => none
      | some v => some (v :: t, (aMk F c a b).2)) := by
      unfold mkS
      cases (aMk F c a b).1 <;> rfl
    rw [eqm]
    refine fin τ1 t (aMk F c a b).2 (aMk F c a b).1 nd _ ?_ htl (fun i x hx => ?_) ⟨?_, fun i x hx => ?_⟩ ?_ g2 g3 m1 (aMk_fle F c a b) (fun v hv => Nat.lt_of_lt_of_le (ht v hv) m3) m2 (fun z => aMk_no k1 z) ((frT.refl.WI (by omega)).trans (frT_F g1))
    · rw [e10, WI_at, if_pos ⟨rfl, rfl⟩]
    · rw [e12, WI_at, if_neg (by omega)]; exact hv i x hx
    · rw [e10, WI_at, if_neg (by omega)]; exact o1.1
    · rw [e11, WI_at, if_neg (by omega)]; exact o1.2 i x hx
    · rw [e10, WI_at, if_neg (by omega)]; exact u1
  refine mGo_run (n := 400) ok rfl ?_
  refine mGo_ifI ok rfl (nI_eq (a := c) (b := 1) (by omega) (by omega)) (fun hc1 => ?_) (fun hc1 => ?_)
  · subst hc1
    refine mGo_run (n := 400) ok rfl ?_
    rw [v1.1]
    cases vals with
    | nil =>
      refine mGo_ifI ok rfl (nI_leI (a := 1) (b := ([] : List Nat).length) (by omega) (by omega)) (fun h2 => ?_) (fun h2 => ?_)
      · simp at h2
      · refine mGo_run (n := 400) ok rfl ?_
        exact mGo_ret ok rfl trivial (⟨rfl, rfl, frT.refl, h, fle.refl⟩)
    | cons a t =>
      have hl2 : t.length + 1 ≤ 40 := by simpa using hl
      refine mGo_ifI ok rfl (nI_leI (a := 1) (b := (a :: t).length) (by omega) (by omega)) (fun h2 => ?_) (fun h2 => ?_)
      · refine mGo_run (n := 400) ok rfl ?_
        rw [v1.1, show nI (a :: t).length - 1 = nI t.length by rw [List.length_cons]; exact nI_pred _]
        refine mGo_if ok rfl (fun h3 => ?_) (fun h3 => ?_)
        · refine mGo_runS 50 (n := 400) ok rfl ?_
          exact mk a 0 t 1 _ (q1 a List.mem_cons_self) (by have := k1.1; omega) (fun _ => rfl) (fun v hv => q1 v (List.mem_cons_of_mem _ hv)) rfl (by omega) (fun i x hx => v1.2 i x (rev_at hx)) (v1.2 _ _ rev_top)
        · exact absurd rfl h3
      · simp at h2
  · have hc2 : 2 ≤ c := by omega
    refine mGo_run (n := 400) ok rfl ?_
    rw [v1.1]
    match vals, h, hl, v1, q1 with
    | [], h, hl, v1, q1 =>
      refine mGo_ifI ok rfl (nI_leI (a := 2) (b := ([] : List Nat).length) (by omega) (by omega)) (fun h2 => ?_) (fun h2 => ?_)
      · simp at h2
      · refine mGo_run (n := 400) ok rfl ?_
        exact mGo_ret ok rfl trivial (⟨rfl, rfl, frT.refl, by unfold jn; rw [if_neg hc1]; exact ⟨h, fle.refl⟩⟩)
    | [b], h, hl, v1, q1 =>
      refine mGo_ifI ok rfl (nI_leI (a := 2) (b := [b].length) (by omega) (by omega)) (fun h2 => ?_) (fun h2 => ?_)
      · simp at h2
      · refine mGo_run (n := 400) ok rfl ?_
        exact mGo_ret ok rfl trivial (⟨rfl, rfl, frT.refl, by unfold jn; rw [if_neg hc1]; exact ⟨h, fle.refl⟩⟩)
    | b :: a :: t, h, hl, v1, q1 =>
      have hl2 : t.length + 2 ≤ 40 := by simpa using hl
      have ej : jn c (b :: a :: t) F = (match mkS F c a b with
        | none => none
        | some (v, F1) => some (v :: t, F1)) := by unfold jn; rw [if_neg hc1]; rfl
      rw [ej]
      have hva : σ.1 12 t.length = nI a := v1.2 _ _ (rev_at rev_top)
      have hvb : σ.1 12 (t.length + 1) = nI b := v1.2 _ _ (show (b :: a :: t).reverse[(a :: t).length]? = some b from rev_top)
      refine mGo_ifI ok rfl (nI_leI (a := 2) (b := (b :: a :: t).length) (by omega) (by omega)) (fun h2 => ?_) (fun h2 => ?_)
      · refine mGo_run (n := 400) ok rfl ?_
        rw [v1.1, show nI (b :: a :: t).length - 2 = nI t.length by rw [show (2 : Int32) = nI 2 from rfl, pk_sub (by simp)]; rfl]
        refine mGo_if ok rfl (fun h3 => ?_) (fun h3 => ?_)
        · exact absurd h3 (by decide)
        · refine mGo_run (n := 400) ok rfl ?_
          rw [show (mWI σ 10 4 (nI t.length)).1 10 4 = nI t.length by rw [WI_at, if_pos ⟨rfl, rfl⟩], nI_1]
          refine mGo_side ok rfl (nI_in (by omega) (by omega)) ?_
          rw [nI_clamp (by omega), show (mWI σ 10 4 (nI t.length)).1 12 (t.length + 1) = nI b by rw [WI_at, if_neg (by omega)]; exact hvb]
          have := mk a b t 2 _ (q1 a (by simp)) (q1 b (by simp)) (fun z => absurd z hc1) (fun v hv => q1 v (by simp [hv])) rfl (by omega) (fun i x hx => v1.2 i x (rev_at (rev_at hx))) hva
          rw [if_neg (by omega)] at this
          exact this
      · simp at h2
end T
