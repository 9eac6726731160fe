/-! the reference: moves and replies -/
/-- the reference's position -/
def mQ (σ : mHp) (c o : Int64) : Prop := σ.2.1 48 15 = c ∧ σ.2.1 48 16 = o
/-- the reference's move -/
def mV (σ : mHp) (q : Nat × Nat) : Prop := σ.1 48 18 = nI q.1 ∧ σ.1 48 19 = nI q.2
theorem mGo_ifI {g : mG} {l : Launch} {d : Nat} {md : mMd} {n0 t0 : Nat} {Post : Option Value → mSh → mHp → Prop} {c e : Prop} {cf cf1 cf2 : mCf} (hok : mOkP md) (h : mBnF md cf = some (c, cf1, cf2)) (hc : c ↔ e) (k1 : e → mGo g l d md n0 t0 cf1 Post) (k2 : ¬ e → mGo g l d md n0 t0 cf2 Post) : mGo g l d md n0 t0 cf Post := mGo_if hok h (fun z => k1 (hc.mp z)) (fun z => k2 (fun y => z (hc.mpr y)))
/-- the test of a bit that the reference makes -/
theorem lgb {x : Int64} {i : Nat} (hi : i < 64) : lg_cmp (x >>> ((nI i).toInt64 &&& 63) &&& 1) 1 = 0 ↔ tb x i = true := lg0.trans (shr_one hi)
theorem canK {F : aF} (hf : fOk F) (c : Int64) {f : Nat} (hn : f < aN F) : canC c f = (!decide (aK F f = 0) || tb c f) := by
  have w := (hf.2.2 f hn).1
  unfold canC
  by_cases h : f < 4
  · have e := w.mpr h
    simp [e, show ¬ 4 ≤ f by omega]
  · have e : ¬ aK F f = 0 := fun z => h (w.mp z)
    simp [e, show 4 ≤ f by omega]
theorem or0 (c : Int64) : c ||| 0 = c := by
  apply tb_ext
  intro j hj
  rw [tb_or, tb_zero, Bool.or_false]
section T
variable {g : mG} {l : Launch} {d : Nat} {lk : Nat} {ex : mSh} {σ : mHp} {F : aF}
theorem m_attacksOn (hf : fOk F) (hm : mF σ F) {j : Nat} (hj : j < aN F) : mNP g l d 150 [.ref 48, .int (nI j)] lk ex σ (.int (nI (atk (aK F j)))) := by
  obtain ⟨w1, w2, w3, w4, w5, w6⟩ := hf.2.2 j hj
  obtain ⟨m1, m2, m3⟩ := hm.2 j hj
  have hn := hf.2.1
  have ok : mOkP md_X9_attacksOn := ok_at 150 (by decide) rfl
  refine mC_of (md := md_X9_attacksOn) rfl (lt_at (by decide)) rfl ?_
  refine mGo_run (n := 400) ok rfl ?_
  refine mGo_side ok rfl (nI_in (by omega) (by omega)) ?_
  rw [nI_clamp (n := j) (by omega), m1]
  refine mGo_ifI ok rfl (nI_eq (a := aK F j) (b := 0) (by omega) (by omega)) (fun h => ?_) (fun h => ?_)
  · refine mGo_run (n := 400) ok rfl ?_
    exact mGo_ret ok rfl trivial (⟨by rw [atk, if_pos h]; rfl, rfl, rfl⟩)
  · refine mGo_run (n := 400) ok rfl ?_
    refine mGo_side ok rfl (nI_in (by omega) (by omega)) ?_
    rw [nI_clamp (n := j) (by omega), m1]
    refine mGo_run (n := 400) ok rfl ?_
    refine mGo_ifI ok rfl (nI_eq (a := aK F j) (b := 2) (by omega) (by omega)) (fun h1 => ?_) (fun h1 => ?_)
    · refine mGo_run (n := 400) ok rfl ?_
      exact mGo_ret ok rfl trivial (⟨by rw [atk, if_neg h, if_pos h1]; rfl, rfl, rfl⟩)
    · refine mGo_run (n := 400) ok rfl ?_
      exact mGo_ret ok rfl trivial (⟨by rw [atk, if_neg h, if_neg h1]; rfl, rfl, rfl⟩)
theorem m_attack (hf : fOk F) (hm : mF σ F) {c o : Int64} (hq : mQ σ c o) {man : Nat} (hman : σ.1 48 17 = nI man) (hm1 : man ≤ 1) {f r : Nat} (hfn : f < aN F) (k0 : aK F f ≠ 0) (hr : r < 2 ^ 31) : mNV g l d 151 [.ref 48, .int (nI f), .int (nI r)] lk ex σ (fun σ1 => fr 48 49 σ σ1 ∧ fm [15, 16] σ σ1 ∧ mQ σ1 (atP2 F man c o f r).1 (atP2 F man c o f r).2) := by
  obtain ⟨w1, w2, w3, w4, w5, w6⟩ := hf.2.2 f hfn
  obtain ⟨m1, m2, m3⟩ := hm.2 f hfn
  obtain ⟨q1, q2⟩ := hq
  have hn := hf.2.1
  have ok : mOkP md_X9_attack := ok_at 151 (by decide) rfl
  refine mC_of (md := md_X9_attack) rfl (lt_at (by decide)) rfl ?_
  have tail : ∀ (τ : mHp) (df : Int64), fr 48 49 σ τ → fm [15, 16] σ τ → τ.2.1 48 15 = (atP2 F man c o f r).1 → τ.2.1 48 16 = o → (atP2 F man c o f r).2 = (if man = 1 then o ||| df else df) → mGo g l d md_X9_attack (SH lk ex).length (mTot (SH lk ex)) (128, [some (.ref 48), some (.int (nI f)), some (.int (nI r)), some (.long df), none], [], SH lk ex, τ) (fun r1 sp σ1 => r1 = none ∧ sp = SH lk ex ∧ (fr 48 49 σ σ1 ∧ fm [15, 16] σ σ1 ∧ mQ σ1 (atP2 F man c o f r).1 (atP2 F man c o f r).2)) := by
    intro τ df t1 t2 t3 t4 t5
    have hmt : τ.1 48 17 = nI man := by rw [(t2 17 (by decide)).1]; exact hman
    have fin : ∀ x : Int64, x = (atP2 F man c o f r).2 → fr 48 49 σ (mWL τ 48 16 x) ∧ fm [15, 16] σ (mWL τ 48 16 x) ∧ mQ (mWL τ 48 16 x) (atP2 F man c o f r).1 (atP2 F man c o f r).2 := fun x hx => ⟨t1.WL (by decide) (by decide), t2.WL (fun _ => by decide), by simp [WL_at, t3], by simp [WL_at, hx]⟩
    refine mGo_run (n := 400) ok rfl ?_
    rw [hmt]
    refine mGo_ifI ok rfl (nI_eq (a := man) (b := 0) (by omega) (by omega)) (fun h => ?_) (fun h => ?_)
    · refine mGo_run (n := 400) ok rfl ?_
      exact mGo_ret ok rfl trivial (⟨rfl, rfl, fin _ (by rw [t5, if_neg (by omega)])⟩)
    · refine mGo_run (n := 400) ok rfl ?_
      rw [t4]
      exact mGo_ret ok rfl trivial (⟨rfl, rfl, fin _ (by rw [t5, if_pos (by omega)])⟩)
  refine mGo_run (n := 400) ok rfl ?_
  refine mGo_side ok rfl (nI_in (by omega) (by omega)) ?_
  rw [nI_clamp (n := f) (by omega), m1]
  refine mGo_sw ok rfl ⟨fun h2 => ?_, fun h2 => ⟨fun h3 => ?_, fun h3 => ⟨fun h4 => ?_, fun h4 => ?_⟩⟩⟩
  · have e1 : aK F f = 1 := (nI_eq (a := aK F f) (b := 1) (by omega) (by omega)).mp h2
    refine mGo_run (n := 400) ok rfl ?_
    refine mGo_side ok rfl (nI_in (by omega) (by omega)) ?_
    rw [nI_clamp (n := f) (by omega), m2]
    refine mGo_runS 128 (n := 400) ok rfl ?_
    rw [q1]
    exact tail _ _ (fr.refl.WL (by decide) (by decide)) (fm.refl.WL (fun _ => by decide)) (by simp [WL_at, atP2, e1, bit]) (by simp [WL_at, q2]) (by simp [atP2, e1])
  · have e1 : aK F f = 2 := (nI_eq (a := aK F f) (b := 2) (by omega) (by omega)).mp h3
    refine mGo_run (n := 400) ok rfl ?_
    refine mGo_ifI ok rfl (nI_eq (a := r) (b := 0) (by omega) (by omega)) (fun e2 => ?_) (fun e2 => ?_)
    · refine mGo_run (n := 400) ok rfl ?_
      refine mGo_side ok rfl (nI_in (by omega) (by omega)) ?_
      rw [nI_clamp (n := f) (by omega), m2]
      refine mGo_runS 128 (n := 400) ok rfl ?_
      exact tail _ _ fr.refl fm.refl (by simp [atP2, e1, q1]) q2 (by simp [atP2, e1, e2, bit])
    · refine mGo_run (n := 400) ok rfl ?_
      refine mGo_side ok rfl (nI_in (by omega) (by omega)) ?_
      rw [nI_clamp (n := f) (by omega), m3]
      refine mGo_runS 128 (n := 400) ok rfl ?_
      exact tail _ _ fr.refl fm.refl (by simp [atP2, e1, q1]) q2 (by simp [atP2, e1, e2, bit])
  · have e1 : aK F f = 3 := (nI_eq (a := aK F f) (b := 3) (by omega) (by omega)).mp h4
    refine mGo_run (n := 400) ok rfl ?_
    refine mGo_side ok rfl (nI_in (by omega) (by omega)) ?_
    rw [nI_clamp (n := f) (by omega), m2]
    refine mGo_run (n := 400) ok rfl ?_
    refine mGo_side ok rfl (nI_in (by omega) (by omega)) ?_
    rw [nI_clamp (n := f) (by omega), m3]
    refine mGo_runS 128 (n := 400) ok rfl ?_
    exact tail _ _ fr.refl fm.refl (by simp [atP2, e1, q1]) q2 (by simp [atP2, e1, bit])
  · have n1 : aK F f ≠ 1 := fun z => h2 (by rw [z]; rfl)
    have n2 : aK F f ≠ 2 := fun z => h3 (by rw [z]; rfl)
    have n3 : aK F f ≠ 3 := fun z => h4 (by rw [z]; rfl)
    have e1 : aK F f = 4 := by omega
    refine mGo_run (n := 400) ok rfl ?_
    refine mGo_side ok rfl (nI_in (by omega) (by omega)) ?_
    rw [nI_clamp (n := f) (by omega), m2]
    refine mGo_run (n := 400) ok rfl ?_
    refine mGo_side ok rfl (nI_in (by omega) (by omega)) ?_
    rw [nI_clamp (n := f) (by omega), show (mWL σ 48 15 (σ.2.1 48 15 ||| (1 : Int64) <<< ((nI (aA F f)).toInt64 &&& 63))).1 51 f = nI (aB F f) from m3]
    refine mGo_runS 128 (n := 400) ok rfl ?_
    rw [q1]
    exact tail _ _ (fr.refl.WL (by decide) (by decide)) (fm.refl.WL (fun _ => by decide)) (by simp [WL_at, atP2, e1, bit]) (by simp [WL_at, q2]) (by simp [atP2, e1, bit])
theorem m_mayClaim (hf : fOk F) (hm : mF σ F) {c : Int64} (hq : σ.2.1 48 15 = c) {f : Nat} (hfn : f < aN F) : mNP g l d 152 [.ref 48, .int (nI f)] lk ex σ (.int (if canC c f = true then 1 else 0)) := by
  obtain ⟨w1, w2, w3, w4, w5, w6⟩ := hf.2.2 f hfn
  obtain ⟨m1, m2, m3⟩ := hm.2 f hfn
  have hn := hf.2.1
  have ok : mOkP md_X9_mayClaim := ok_at 152 (by decide) rfl
  refine mC_of (md := md_X9_mayClaim) rfl (lt_at (by decide)) rfl ?_
  refine mGo_run (n := 400) ok rfl ?_
  refine mGo_side ok rfl (nI_in (by omega) (by omega)) ?_
  rw [nI_clamp (n := f) (by omega), m1]
  rw [canK hf c hfn]
  refine mGo_ifI ok rfl (nI_eq (a := aK F f) (b := 0) (by omega) (by omega)) (fun h => ?_) (fun h => ?_)
  · refine mGo_run (n := 400) ok rfl ?_
    rw [hq]
    refine mGo_ifI ok rfl (lgb (x := c) (i := f) (by omega)) (fun h1 => ?_) (fun h1 => ?_)
    · refine mGo_run (n := 400) ok rfl ?_
      exact mGo_ret ok rfl (Or.inr rfl) (⟨by simp [h1], rfl, rfl⟩)
    · refine mGo_run (n := 400) ok rfl ?_
      exact mGo_ret ok rfl (Or.inl rfl) (⟨by simp [h, h1], rfl, rfl⟩)
  · refine mGo_run (n := 400) ok rfl ?_
    exact mGo_ret ok rfl (Or.inr rfl) (⟨by simp [h], rfl, rfl⟩)
/-- what findMove does with a number: it finds that move, or counts them all -/
def fmP (F : aF) (c o : Int64) (v : Int32) (σ : mHp) (r : Option Value) (σ1 : mHp) : Prop := (∃ i q, v = nI i ∧ (mvs F c o)[i]? = some q ∧ r = some (.int (nI i)) ∧ σ1 = mWI (mWI σ 48 18 (nI q.1)) 48 19 (nI q.2)) ∨ ((∀ i, i < (mvs F c o).length → v ≠ nI i) ∧ r = some (.int (nI (mvs F c o).length)) ∧ σ1 = σ)
set_option maxHeartbeats 1000000 in
theorem m_findMove (hf : fOk F) (hm : mF σ F) {c o : Int64} (hq : mQ σ c o) (v : Int32) : mC g l (d + 1) 153 [.ref 48, .int v] (SH lk ex) σ (fun r sp σ1 => sp = SH lk ex ∧ fmP F c o v σ r σ1) := by
  obtain ⟨q1, q2⟩ := hq
  have hn := hf.2.1
  have h4n := hf.1
  have hml := mvs_len hf c o
  have len1 := fun m k => clM_len c o m k
  have hmN := hm.1
  have ok : mOkP md_X9_findMove := ok_at 153 (by decide) rfl
  refine mC_of (md := md_X9_findMove) rfl (lt_at (by decide)) rfl ?_
  have two : ∀ m k : Nat, k + m = aN F → 4 ≤ k → ∀ (pre : List (Nat × Nat)) (L4 L5 : Option Value), pre ++ atM F c k m = mvs F c o → (∀ i, i < pre.length → v ≠ nI i) → mGo g l (d + 1) md_X9_findMove (SH lk ex).length (mTot (SH lk ex)) (61, [some (.ref 48), some (.int v), some (.int (nI pre.length)), some (.int (nI k)), L4, L5], [], SH lk ex, σ) (fun r sp σ1 => sp = SH lk ex ∧ fmP F c o v σ r σ1) := by
    intro m
    induction m with
    | zero =>
      intro k hk h4 pre L4 L5 hp hv
      rw [show atM F c k 0 = [] from rfl, List.append_nil] at hp
      refine mGo_run (n := 400) ok rfl ?_
      rw [hmN]
      refine mGo_ifI ok rfl (nI_leI (a := aN F) (b := k) (by omega) (by omega)) (fun h => ?_) (fun h => ?_)
      · refine mGo_run (n := 400) ok rfl ?_
        exact mGo_ret ok rfl trivial (⟨rfl, Or.inr ⟨fun i hi => hv i (by rw [hp]; exact hi), by rw [hp], rfl⟩⟩)
      · omega
    | succ m ih =>
      intro k hk h4 pre L4 L5 hp hv
      have hkn : k < aN F := by omega
      obtain ⟨w1, w2, w3, w4, w5, w6⟩ := hf.2.2 k hkn
      obtain ⟨m1, m2, m3⟩ := hm.2 k hkn
      have k0 : aK F k ≠ 0 := fun z => by have := w1.mp z; omega
      have hpl : pre.length ≤ 112 := by have := congrArg List.length hp; simp at this; omega
      have next : ∀ (pre1 : List (Nat × Nat)) (L4 L5 : Option Value), pre1 ++ atM F c (k + 1) m = mvs F c o → (∀ i, i < pre1.length → v ≠ nI i) → mGo g l (d + 1) md_X9_findMove (SH lk ex).length (mTot (SH lk ex)) (188, [some (.ref 48), some (.int v), some (.int (nI pre1.length)), some (.int (nI k)), L4, L5], [], SH lk ex, σ) (fun r sp σ1 => sp = SH lk ex ∧ fmP F c o v σ r σ1) := by
        intro pre1 L4 L5 h1 h2
        refine mGo_runS 61 (n := 400) ok rfl ?_
        rw [nI_1]
        exact ih (k + 1) (by omega) (by omega) pre1 L4 L5 h1 h2
      have hit : ∀ (L4 : Option Value) (w : Nat) (as : List (Nat × Nat)), atK F c k = as → as.length = w → tb c k = true → (w = 1 → as = [(1, k)]) → (w ≠ 1 → as = [(2, k), (3, k)]) → mGo g l (d + 1) md_X9_findMove (SH lk ex).length (mTot (SH lk ex)) (144, [some (.ref 48), some (.int v), some (.int (nI pre.length)), some (.int (nI k)), L4, some (.int (nI w))], [], SH lk ex, σ) (fun r sp σ1 => sp = SH lk ex ∧ fmP F c o v σ r σ1) := by
        intro L4 w as ha hl ht a1 a2
        have hw : w = 1 ∨ w = 2 := by
          by_cases z : w = 1
          · exact Or.inl z
          · rw [a2 z] at hl; exact Or.inr hl.symm
        simp only [atM, ht, if_true, ha] at hp
        rw [← List.append_assoc] at hp
        have skip : (∀ i, i < (pre ++ as).length → v ≠ nI i) → mGo g l (d + 1) md_X9_findMove (SH lk ex).length (mTot (SH lk ex)) (183, [some (.ref 48), some (.int v), some (.int (nI pre.length)), some (.int (nI k)), L4, some (.int (nI w))], [], SH lk ex, σ) (fun r sp σ1 => sp = SH lk ex ∧ fmP F c o v σ r σ1) := by
          intro hv2
          refine mGo_runS 188 (n := 400) ok rfl ?_
          rw [nI_add, show pre.length + w = (pre ++ as).length by simp [hl]]
          exact next _ _ _ hp hv2
        refine mGo_run (n := 400) ok rfl ?_
        refine mGo_if ok rfl (fun h1 => ?_) (fun h1 => ?_)
        · exact skip (fun i hi => by
            simp only [List.length_append] at hi
            rcases Nat.lt_or_ge i pre.length with z | z
            · exact hv i z
            · intro e
              subst e
              exact absurd h1 (nI_nlt z (by omega)))
        · refine mGo_run (n := 400) ok rfl ?_
          rw [nI_add]
          refine mGo_if ok rfl (fun h2 => ?_) (fun h2 => ?_)
          · exact skip (fun i hi => by
              simp only [List.length_append] at hi
              intro e
              subst e
              have := (nI_leI (a := pre.length + w) (b := i) (by omega) (by omega)).mp h2
              omega)
          · obtain ⟨i, hi, rfl⟩ := nI_of (x := v) (fun z => h1 (Int32.lt_of_lt_of_le z (nI_pos' (by omega))))
            have i1 : pre.length ≤ i := by
              rcases Nat.lt_or_ge i pre.length with z | z
              · exact absurd (nI_lt z (by omega)) h1
              · exact z
            have i2 : i < pre.length + w := by
              rcases Nat.lt_or_ge i (pre.length + w) with z | z
              · exact z
              · exact absurd (nI_le z hi) h2
            have at1 : (mvs F c o)[i]? = as[i - pre.length]? := by
              rw [← hp, List.getElem?_append_left (by simp; omega), List.getElem?_append_right i1]
            refine mGo_run (n := 400) ok rfl ?_
            refine mGo_ifI ok rfl (nI_eq (a := w) (b := 1) (by omega) (by omega)) (fun e => ?_) (fun e => ?_)
            · refine mGo_run (n := 400) ok rfl ?_
              rw [a1 e] at at1
              have e3 : i - pre.length = 0 := by omega
              rw [e3] at at1
              exact mGo_ret ok rfl trivial (⟨rfl, Or.inl ⟨i, (1, k), rfl, at1, rfl, rfl⟩⟩)
            · refine mGo_run (n := 400) ok rfl ?_
              rw [a2 e] at at1
              have e4 : (2 : Int32) + nI i - nI pre.length = nI (2 + (i - pre.length)) := by
                rw [show (2 : Int32) = nI 2 from rfl, nI_add, pk_sub (by omega)]
                congr 1
                omega
              rw [e4]
              have e3 : i - pre.length = 0 ∨ i - pre.length = 1 := by omega
              rcases e3 with e3 | e3
              · rw [e3] at at1 ⊢
                exact mGo_ret ok rfl trivial (⟨rfl, Or.inl ⟨i, (2, k), rfl, at1, rfl, rfl⟩⟩)
              · rw [e3] at at1 ⊢
                exact mGo_ret ok rfl trivial (⟨rfl, Or.inl ⟨i, (3, k), rfl, at1, rfl, rfl⟩⟩)
      have body : ∀ (b : Int32), (b = 0 ↔ ¬ (aK F k = 2 ∨ aK F k = 3)) → mGo g l (d + 1) md_X9_findMove (SH lk ex).length (mTot (SH lk ex)) (94, [some (.ref 48), some (.int v), some (.int (nI pre.length)), some (.int (nI k)), L4, L5], [.int b], SH lk ex, σ) (fun r sp σ1 => sp = SH lk ex ∧ fmP F c o v σ r σ1) := by
        intro b hb
        have go : aK F k = 2 ∨ aK F k = 3 ∨ canC c (aA F k) = true → tb c k = true → mGo g l (d + 1) md_X9_findMove (SH lk ex).length (mTot (SH lk ex)) (127, [some (.ref 48), some (.int v), some (.int (nI pre.length)), some (.int (nI k)), some (.int b), L5], [], SH lk ex, σ) (fun r sp σ1 => sp = SH lk ex ∧ fmP F c o v σ r σ1) := by
          intro hh ht
          refine mGo_run (n := 400) ok rfl ?_
          refine mGo_side ok rfl (nI_in (by omega) (by omega)) ?_
          rw [nI_clamp (n := k) (by omega), m1]
          refine mGo_run (n := 400) ok rfl ?_
          refine mGo_ifI ok rfl (nI_eq (a := aK F k) (b := 2) (by omega) (by omega)) (fun e => ?_) (fun e => ?_)
          · refine mGo_runS 144 (n := 400) ok rfl ?_
            exact hit _ 2 [(2, k), (3, k)] (by rw [atK, if_pos e]) rfl ht (fun z => by omega) (fun _ => rfl)
          · refine mGo_runS 144 (n := 400) ok rfl ?_
            exact hit _ 1 [(1, k)] (by rw [atK, if_neg e, if_pos (by rcases hh with z | z; exact absurd z e; exact z)]) rfl ht (fun _ => rfl) (fun z => absurd rfl z)
        refine mGo_run (n := 400) ok rfl ?_
        rw [q1]
        refine mGo_ifI ok rfl (lgb (x := c) (i := k) (by omega)) (fun ht => ?_) (fun ht => ?_)
        · refine mGo_run (n := 400) ok rfl ?_
          refine mGo_ifI ok rfl (hb) (fun hc2 => ?_) (fun hc2 => ?_)
          · refine mGo_run (n := 400) ok rfl ?_
            refine mGo_side ok rfl (nI_in (by omega) (by omega)) ?_
            rw [nI_clamp (n := k) (by omega), m2]
            refine mGo_callP ok rfl (by omega) (m_mayClaim (d := d) hf hm q1 (f := aA F k) (by have := w3 k0; omega)) ?_
            refine mGo_if ok rfl (fun h2 => ?_) (fun h2 => ?_)
            · have e : ¬ canC c (aA F k) = true := fun z => by rw [if_pos z] at h2; exact absurd h2 (by decide)
              simp only [atM, ht, if_true] at hp
              rw [atK, if_neg (fun z => hc2 (Or.inl z)), if_neg (by rintro (z | z); exact hc2 (Or.inr z); exact e z), List.nil_append] at hp
              exact next pre _ _ hp hv
            · have e : canC c (aA F k) = true := by
                by_cases z : canC c (aA F k) = true
                · exact z
                · rw [if_neg z] at h2; exact absurd rfl h2
              exact go (Or.inr (Or.inr e)) ht
          · exact go (by
              have : aK F k = 2 ∨ aK F k = 3 := Classical.byContradiction hc2
              rcases this with z | z
              · exact Or.inl z
              · exact Or.inr (Or.inl z)) ht
        · have e : tb c k = false := by simpa using ht
          simp only [atM, e] at hp
          exact next pre _ _ (by simpa using hp) hv
      refine mGo_run (n := 400) ok rfl ?_
      rw [hmN]
      refine mGo_ifI ok rfl (nI_leI (a := aN F) (b := k) (by omega) (by omega)) (fun h => ?_) (fun h => ?_)
      · omega
      · refine mGo_run (n := 400) ok rfl ?_
        refine mGo_side ok rfl (nI_in (by omega) (by omega)) ?_
        rw [nI_clamp (n := k) (by omega), m1]
        refine mGo_run (n := 400) ok rfl ?_
        refine mGo_ifI ok rfl (nI_eq (a := aK F k) (b := 2) (by omega) (by omega)) (fun h1 => ?_) (fun h1 => ?_)
        · refine mGo_runS 94 (n := 400) ok rfl ?_
          exact body 1 ⟨fun z => absurd z (by decide), fun z => absurd (Or.inl h1) z⟩
        · refine mGo_run (n := 400) ok rfl ?_
          refine mGo_side ok rfl (nI_in (by omega) (by omega)) ?_
          rw [nI_clamp (n := k) (by omega), m1]
          refine mGo_run (n := 400) ok rfl ?_
          refine mGo_ifI ok rfl (nI_eq (a := aK F k) (b := 3) (by omega) (by omega)) (fun h2 => ?_) (fun h2 => ?_)
          · refine mGo_runS 94 (n := 400) ok rfl ?_
            exact body 1 ⟨fun z => absurd z (by decide), fun z => absurd (Or.inr h2) z⟩
          · refine mGo_runS 94 (n := 400) ok rfl ?_
            exact body 0 ⟨fun _ => by rintro (z | z); exact h1 z; exact h2 z, fun _ => rfl⟩
  have one : ∀ m k : Nat, k + m = aN F → ∀ (pre : List (Nat × Nat)), pre ++ clM c o k m = clM c o 0 (aN F) → (∀ i, i < pre.length → v ≠ nI i) → mGo g l (d + 1) md_X9_findMove (SH lk ex).length (mTot (SH lk ex)) (4, [some (.ref 48), some (.int v), some (.int (nI pre.length)), some (.int (nI k)), none, none], [], SH lk ex, σ) (fun r sp σ1 => sp = SH lk ex ∧ fmP F c o v σ r σ1) := by
    intro m
    induction m with
    | zero =>
      intro k hk pre hp hv
      rw [show clM c o k 0 = [] from rfl, List.append_nil] at hp
      refine mGo_run (n := 400) ok rfl ?_
      rw [hmN]
      refine mGo_ifI ok rfl (nI_leI (a := aN F) (b := k) (by omega) (by omega)) (fun h => ?_) (fun h => ?_)
      · refine mGo_runS 61 (n := 400) ok rfl ?_
        exact two (aN F - 4) 4 (by omega) (by omega) pre _ _ (by rw [hp]; rfl) hv
      · omega
    | succ m ih =>
      intro k hk pre hp hv
      have hkn : k < aN F := by omega
      have hpl : pre.length ≤ 40 := by have := congrArg List.length hp; have := len1 (aN F) 0; simp at *; omega
      have next : ∀ (pre1 : List (Nat × Nat)), pre1 ++ clM c o (k + 1) m = clM c o 0 (aN F) → (∀ i, i < pre1.length → v ≠ nI i) → mGo g l (d + 1) md_X9_findMove (SH lk ex).length (mTot (SH lk ex)) (53, [some (.ref 48), some (.int v), some (.int (nI pre1.length)), some (.int (nI k)), none, none], [], SH lk ex, σ) (fun r sp σ1 => sp = SH lk ex ∧ fmP F c o v σ r σ1) := by
        intro pre1 h1 h2
        refine mGo_runS 4 (n := 400) ok rfl ?_
        rw [nI_1]
        exact ih (k + 1) (by omega) pre1 h1 h2
      refine mGo_run (n := 400) ok rfl ?_
      rw [hmN]
      refine mGo_ifI ok rfl (nI_leI (a := aN F) (b := k) (by omega) (by omega)) (fun h => ?_) (fun h => ?_)
      · omega
      · refine mGo_run (n := 400) ok rfl ?_
        rw [q2]
        refine mGo_ifI ok rfl (lgb (x := o) (i := k) (by omega)) (fun ht => ?_) (fun ht => ?_)
        · refine mGo_run (n := 400) ok rfl ?_
          refine mGo_callP ok rfl (by omega) (m_mayClaim (d := d) hf hm q1 (f := k) (by omega)) ?_
          refine mGo_if ok rfl (fun h2 => ?_) (fun h2 => ?_)
          · have e : ¬ canC c k = true := fun z => by rw [if_pos z] at h2; exact absurd h2 (by decide)
            simp only [clM] at hp
            rw [if_neg (fun z => e z.2), List.nil_append] at hp
            exact next pre hp hv
          · have e : canC c k = true := by
              by_cases z : canC c k = true
              · exact z
              · rw [if_neg z] at h2; exact absurd rfl h2
            simp only [clM] at hp
            rw [if_pos ⟨ht, e⟩, ← List.append_assoc] at hp
            refine mGo_run (n := 400) ok rfl ?_
            refine mGo_if ok rfl (fun h3 => ?_) (fun h3 => ?_)
            · have at1 : (mvs F c o)[pre.length]? = some (0, k) := by
                rw [mvs, ← hp, List.append_assoc, List.append_assoc, List.getElem?_append_right (Nat.le_refl _)]
                simp
              refine mGo_run (n := 400) ok rfl ?_
              exact mGo_ret ok rfl trivial (⟨rfl, Or.inl ⟨pre.length, (0, k), h3.symm, at1, rfl, rfl⟩⟩)
            · refine mGo_runS 53 (n := 400) ok rfl ?_
              rw [nI_1, show pre.length + 1 = (pre ++ [(0, k)]).length by simp]
              exact next _ hp (fun i hi => by
                simp only [List.length_append, List.length_singleton] at hi
                rcases Nat.lt_or_ge i pre.length with z | z
                · exact hv i z
                · have : i = pre.length := by omega
                  subst this
                  exact fun y => h3 y.symm)
        · have e : tb o k = false := by simpa using ht
          simp only [clM] at hp
          rw [if_neg (fun z => ht z.1), List.nil_append] at hp
          exact next pre hp hv
  refine mGo_runS 4 (n := 400) ok rfl ?_
  exact one (aN F) 0 (by omega) [] rfl (fun i hi => by simp at hi)
end T
