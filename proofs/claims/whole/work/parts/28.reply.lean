/-! the class Board: moves, replies, the next position -/
def mvOk (F : aF) (q : Nat × Nat) : Prop := q.2 < aN F ∧ q.1 ≤ 3 ∧ (q.1 ≠ 0 → aK F q.2 ≠ 0 ∧ ((q.1 = 2 ∨ q.1 = 3) ↔ aK F q.2 = 2))
theorem mvs_ok {F : aF} (hf : fOk F) {c o : Int64} {q : Nat × Nat} (h : q ∈ mvs F c o) : mvOk F q := by
  rcases List.mem_append.mp h with h | h
  · obtain ⟨h1, h2, h3, h4, h5⟩ := clM_mem h
    exact ⟨by omega, by omega, fun z => absurd h1 z⟩
  · obtain ⟨⟨h1, h2, h3⟩, h4⟩ := atM_mem h
    have hn := hf.1
    have hq : q.2 < aN F := by omega
    have k0 : aK F q.2 ≠ 0 := fun z => by have := (hf.2.2 q.2 hq).1.mp z; omega
    refine ⟨hq, by rcases h4 with h4 | h4 <;> omega, fun _ => ⟨k0, ?_⟩⟩
    rcases h4 with ⟨h5, h6⟩ | ⟨h5, h6, h7⟩
    · exact ⟨fun _ => h5, fun _ => h6⟩
    · constructor
      · intro z; omega
      · intro z; exact absurd z h5
theorem mvs_at {F : aF} (hf : fOk F) {c o : Int64} {i : Nat} {q : Nat × Nat} (h : (mvs F c o)[i]? = some q) : mvOk F q := mvs_ok hf (List.mem_of_getElem? h)
section T
variable {g : mG} {l : Launch} {d : Nat} {lk : Nat} {ex : mSh} {σ : mHp} {F : aF}
theorem c_hasMove18 {ms : List (Nat × Nat)} (hb : σ.1 18 3 = nI ms.length) (hl : ms.length ≤ 120) (m : Int32) : mNP g l d 5 [.ref 18, .int m] lk ex σ (.int (if 0 ≤ m ∧ m < nI ms.length then 1 else 0)) := by
  have ok : mOkP md_X0_hasMove := ok_at 5 (by decide) rfl
  refine mC_of (md := md_X0_hasMove) rfl (lt_at (by decide)) rfl ?_
  refine mGo_run (n := 400) ok rfl ?_
  refine mGo_if ok rfl (fun h => ?_) (fun h => ?_)
  · refine mGo_run (n := 400) ok rfl ?_
    rw [if_neg (fun q => absurd h (Int32.not_lt.mpr q.1))]
    exact mGo_ret ok rfl (Or.inl rfl) (⟨rfl, rfl, rfl⟩)
  · refine mGo_run (n := 400) ok rfl ?_
    rw [hb]
    refine mGo_if ok rfl (fun h1 => ?_) (fun h1 => ?_)
    · refine mGo_run (n := 400) ok rfl ?_
      rw [if_neg (fun q => absurd q.2 (Int32.not_lt.mpr h1))]
      exact mGo_ret ok rfl (Or.inl rfl) (⟨rfl, rfl, rfl⟩)
    · refine mGo_run (n := 400) ok rfl ?_
      rw [if_pos ⟨Int32.not_lt.mp h, Int32.not_le.mp h1⟩]
      exact mGo_ret ok rfl (Or.inr rfl) (⟨rfl, rfl, rfl⟩)
theorem c_hasMove118 {ms : List (Nat × Nat)} (hb : σ.1 18 3 = nI ms.length) (hl : ms.length ≤ 120) {i : Nat} (hi : i < ms.length) : mNP g l d 5 [.ref 18, .int (nI i)] lk ex σ (.int 1) := by
  have h := c_hasMove18 (g := g) (l := l) (d := d) (lk := lk) (ex := ex) hb hl (nI i)
  rw [if_pos ((i_in (by omega)).mpr ⟨i, hi, rfl⟩)] at h
  exact h
theorem c_hasMove018 {ms : List (Nat × Nat)} (hb : σ.1 18 3 = nI ms.length) (hl : ms.length ≤ 120) {m : Int32} (hm : ¬ ∃ j, j < ms.length ∧ m = nI j) : mNP g l d 5 [.ref 18, .int m] lk ex σ (.int 0) := by
  have h := c_hasMove18 (g := g) (l := l) (d := d) (lk := lk) (ex := ex) hb hl m
  rw [if_neg (fun q => hm ((i_in (by omega)).mp q))] at h
  exact h
theorem c_repliesTo018 {ms : List (Nat × Nat)} (hb : σ.1 18 3 = nI ms.length) (hl : ms.length ≤ 120) {m : Int32} (hm : ¬ ∃ j, j < ms.length ∧ m = nI j) : mNP g l (d + 1) 6 [.ref 18, .int m] lk ex σ (.int 0) := by
  have ok : mOkP md_X0_repliesTo := ok_at 6 (by decide) rfl
  refine mC_of (md := md_X0_repliesTo) rfl (lt_at (by decide)) rfl ?_
  refine mGo_run (n := 400) ok rfl ?_
  refine mGo_callP ok rfl (by omega) (c_hasMove018 (d := d) hb hl hm) ?_
  refine mGo_run (n := 400) ok rfl ?_
  refine mGo_if ok rfl (fun h => ?_) (fun h => ?_)
  · refine mGo_run (n := 400) ok rfl ?_
    exact mGo_ret ok rfl trivial (⟨rfl, rfl, rfl⟩)
  · exact absurd rfl h
theorem c_repliesTo18 (hf : fOk F) (hc : cF σ F) {ms : List (Nat × Nat)} (hb : bM σ 18 ms) (hl : ms.length ≤ 120) {i : Nat} {q : Nat × Nat} (hq : ms[i]? = some q) (ho : mvOk F q) : mNP g l (d + 2) 6 [.ref 18, .int (nI i)] lk ex σ (.int (nI (rpN F q))) := by
  have hi : i < ms.length := (List.getElem?_eq_some_iff.mp hq).1
  obtain ⟨b1, b2⟩ := hb.2 i q hq
  obtain ⟨o1, o2, o3⟩ := ho
  obtain ⟨w1, w2, w3, w4, w5, w6⟩ := hf.2.2 q.2 o1
  have hn := hf.2.1
  have ci : (nI i).toNatClampNeg = i := nI_clamp (by omega)
  have hin : vp_in (nI i) 120 := nI_in (by omega) (by omega)
  have ok : mOkP md_X0_repliesTo := ok_at 6 (by decide) rfl
  refine mC_of (md := md_X0_repliesTo) rfl (lt_at (by decide)) rfl ?_
  refine mGo_run (n := 400) ok rfl ?_
  refine mGo_callP ok rfl (by omega) (c_hasMove118 (d := d + 1) hb.1 hl hi) ?_
  refine mGo_run (n := 400) ok rfl ?_
  refine mGo_if ok rfl (fun h => ?_) (fun h => ?_)
  · exact absurd h (by decide)
  · refine mGo_run (n := 400) ok rfl ?_
    refine mGo_side ok rfl (hin) ?_
    rw [ci, b2]
    refine mGo_run (n := 400) ok rfl ?_
    refine mGo_side ok rfl (hin) ?_
    rw [ci, b1]
    refine mGo_run (n := 400) ok rfl ?_
    refine mGo_if ok rfl (fun h1 => ?_) (fun h1 => ?_)
    · have e : q.1 = 0 := (nI_eq (a := q.1) (b := 0) (by omega) (by omega)).mp h1
      refine mGo_run (n := 400) ok rfl ?_
      refine mGo_callP ok rfl (by omega) (c_attacksOn (d := d) hf hc o1) ?_
      refine mGo_run (n := 400) ok rfl ?_
      exact mGo_ret ok rfl trivial (⟨by rw [rpN, if_pos e], rfl, rfl⟩)
    · have e : q.1 ≠ 0 := fun z => h1 (by rw [z]; rfl)
      obtain ⟨k0, k2⟩ := o3 e
      have hA := w3 k0
      refine mGo_run (n := 400) ok rfl ?_
      refine mGo_callP ok rfl (by omega) (c_kindOf (d := d) hf.2.1 hc o1) ?_
      refine mGo_sw ok rfl ⟨fun h2 => ?_, fun h2 => ⟨fun h3 => ?_, fun h3 => ⟨fun h4 => ?_, fun h4 => ?_⟩⟩⟩
      · have e1 : aK F q.2 = 1 := (nI_eq (a := aK F q.2) (b := 1) (by omega) (by omega)).mp h2
        refine mGo_run (n := 400) ok rfl ?_
        refine mGo_callP ok rfl (by omega) (c_firstOf (d := d) hf.2.1 hc o1) ?_
        rw [if_neg k0]
        refine mGo_callP ok rfl (by omega) (c_attacksOn (d := d) hf hc (j := aA F q.2) (by omega)) ?_
        refine mGo_run (n := 400) ok rfl ?_
        exact mGo_ret ok rfl trivial (⟨by rw [rpN, if_neg e, if_pos e1], rfl, rfl⟩)
      · have e1 : aK F q.2 = 2 := (nI_eq (a := aK F q.2) (b := 2) (by omega) (by omega)).mp h3
        refine mGo_run (n := 400) ok rfl ?_
        exact mGo_ret ok rfl trivial (⟨by rw [rpN, if_neg e, if_neg (by omega), if_pos e1]; rfl, rfl, rfl⟩)
      · have e1 : aK F q.2 = 3 := (nI_eq (a := aK F q.2) (b := 3) (by omega) (by omega)).mp h4
        refine mGo_run (n := 400) ok rfl ?_
        exact mGo_ret ok rfl trivial (⟨by rw [rpN, if_neg e, if_neg (by omega), if_neg (by omega), if_pos e1]; rfl, rfl, rfl⟩)
      · have n1 : aK F q.2 ≠ 1 := fun z => h2 (by rw [z]; rfl)
        have n2 : aK F q.2 ≠ 2 := fun z => h3 (by rw [z]; rfl)
        have n3 : aK F q.2 ≠ 3 := fun z => h4 (by rw [z]; rfl)
        refine mGo_run (n := 400) ok rfl ?_
        refine mGo_callP ok rfl (by omega) (c_firstOf (d := d) hf.2.1 hc o1) ?_
        rw [if_neg k0]
        refine mGo_callP ok rfl (by omega) (c_attacksOn (d := d) hf hc (j := aA F q.2) (by omega)) ?_
        refine mGo_run (n := 400) ok rfl ?_
        exact mGo_ret ok rfl trivial (⟨by rw [rpN, if_neg e, if_neg n1, if_neg n2, if_neg n3, nI_1], rfl, rfl⟩)
theorem c_concede18 {c o : Int64} (hc : σ.2.1 18 5 = c) (ho : σ.2.1 18 6 = o) {f : Nat} (hf : f < 40) : mNV g l (d + 1) 8 [.ref 18, .int (nI f)] lk ex σ (fun σ1 => σ1 = mWL (mWL σ 18 7 (c ||| bit f)) 18 8 o) := by
  have ok : mOkP md_X0_concede := ok_at 8 (by decide) rfl
  refine mC_of (md := md_X0_concede) rfl (lt_at (by decide)) rfl ?_
  refine mGo_run (n := 400) ok rfl ?_
  refine mGo_callP ok rfl (by omega) (c_bitOf (d := d) (j := f) (by omega)) ?_
  refine mGo_run (n := 400) ok rfl ?_
  rw [hc, show (mWL σ 18 7 (c ||| bit f)).2.1 18 6 = o by simp [WL_at, ho]]
  exact mGo_ret ok rfl trivial (⟨rfl, rfl, rfl⟩)
theorem c_attack18 (hf : fOk F) (hc : cF σ F) {c o : Int64} (hcl : σ.2.1 18 5 = c) (hop : σ.2.1 18 6 = o) {man : Nat} (hman : σ.1 18 4 = nI man) (hm1 : man ≤ 1) {f r : Nat} (hfn : f < aN F) (k0 : aK F f ≠ 0) (hr : r < 2 ^ 31) : mNV g l (d + 1) 9 [.ref 18, .int (nI f), .int (nI r)] lk ex σ (fun σ1 => σ1 = mWL (mWL σ 18 7 (atP2 F man c o f r).1) 18 8 (atP2 F man c o f r).2) := by
  obtain ⟨w1, w2, w3, w4, w5, w6⟩ := hf.2.2 f hfn
  have hn := hf.2.1
  have hA := w3 k0
  have ok : mOkP md_X0_attack := ok_at 9 (by decide) rfl
  refine mC_of (md := md_X0_attack) rfl (lt_at (by decide)) rfl ?_
  have tail : ∀ (cl df : Int64) (L3 L5 : Option Value), (atP2 F man c o f r) = (c ||| cl, if man = 1 then o ||| df else df) → mGo g l (d + 1) md_X0_attack (SH lk ex).length (mTot (SH lk ex)) (108, [some (.ref 18), some (.int (nI f)), some (.int (nI r)), L3, none, L5, none, some (.long cl), none, some (.long df), none], [], SH lk ex, σ) (fun r1 sp σ1 => r1 = none ∧ sp = SH lk ex ∧ σ1 = mWL (mWL σ 18 7 (atP2 F man c o f r).1) 18 8 (atP2 F man c o f r).2) := by
    intro cl df L3 L5 he
    rw [he]
    refine mGo_run (n := 400) ok rfl ?_
    rw [hcl, show (mWL σ 18 7 (c ||| cl)).1 18 4 = nI man from hman]
    refine mGo_if ok rfl (fun h => ?_) (fun h => ?_)
    · have e : man = 1 := (nI_eq (a := man) (b := 1) (by omega) (by omega)).mp h
      refine mGo_run (n := 400) ok rfl ?_
      rw [show (mWL σ 18 7 (c ||| cl)).2.1 18 6 = o by simp [WL_at, hop], if_pos e]
      exact mGo_ret ok rfl trivial (⟨rfl, rfl, rfl⟩)
    · have e : man ≠ 1 := fun z => h (by rw [z]; rfl)
      refine mGo_run (n := 400) ok rfl ?_
      rw [if_neg e]
      exact mGo_ret ok rfl trivial (⟨rfl, rfl, rfl⟩)
  have sw : ∀ sb : Int64, (2 ≤ aK F f → sb = bit (aB F f)) → mGo g l (d + 1) md_X0_attack (SH lk ex).length (mTot (SH lk ex)) (23, [some (.ref 18), some (.int (nI f)), some (.int (nI r)), some (.long (bit (aA F f))), none, none, none, none, none, none, none], [.long sb], SH lk ex, σ) (fun r1 sp σ1 => r1 = none ∧ sp = SH lk ex ∧ σ1 = mWL (mWL σ 18 7 (atP2 F man c o f r).1) 18 8 (atP2 F man c o f r).2) := by
    intro sb hsb
    refine mGo_run (n := 400) ok rfl ?_
    refine mGo_callP ok rfl (by omega) (c_kindOf (d := d) hf.2.1 hc hfn) ?_
    refine mGo_sw ok rfl ⟨fun h2 => ?_, fun h2 => ⟨fun h3 => ?_, fun h3 => ⟨fun h4 => ?_, fun h4 => ⟨fun h5 => ?_, fun h5 => ?_⟩⟩⟩⟩
    · have e1 : aK F f = 1 := (nI_eq (a := aK F f) (b := 1) (by omega) (by omega)).mp h2
      refine mGo_runS 108 (n := 400) ok rfl ?_
      exact tail _ _ _ _ (by simp [atP2, e1])
    · have e1 : aK F f = 2 := (nI_eq (a := aK F f) (b := 2) (by omega) (by omega)).mp h3
      refine mGo_run (n := 400) ok rfl ?_
      refine mGo_if ok rfl (fun h6 => ?_) (fun h6 => ?_)
      · have e2 : r = 0 := (nI_eq (a := r) (b := 0) (by omega) (by omega)).mp h6
        refine mGo_runS 108 (n := 400) ok rfl ?_
        exact tail _ _ _ _ (by simp [atP2, e1, e2])
      · have e2 : r ≠ 0 := fun z => h6 (by rw [z]; rfl)
        refine mGo_runS 108 (n := 400) ok rfl ?_
        exact tail _ _ _ _ (by rw [hsb (by omega)]; simp [atP2, e1, e2])
    · have e1 : aK F f = 3 := (nI_eq (a := aK F f) (b := 3) (by omega) (by omega)).mp h4
      refine mGo_runS 108 (n := 400) ok rfl ?_
      exact tail _ _ _ _ (by rw [hsb (by omega)]; simp [atP2, e1])
    · have e1 : aK F f = 4 := (nI_eq (a := aK F f) (b := 4) (by omega) (by omega)).mp h5
      refine mGo_runS 108 (n := 400) ok rfl ?_
      exact tail _ _ _ _ (by rw [hsb (by omega)]; simp [atP2, e1])
    · exfalso
      have n1 : aK F f ≠ 1 := fun z => h2 (by rw [z]; rfl)
      have n2 : aK F f ≠ 2 := fun z => h3 (by rw [z]; rfl)
      have n3 : aK F f ≠ 3 := fun z => h4 (by rw [z]; rfl)
      have n4 : aK F f ≠ 4 := fun z => h5 (by rw [z]; rfl)
      omega
  refine mGo_run (n := 400) ok rfl ?_
  refine mGo_callP ok rfl (by omega) (c_firstOf (d := d) hf.2.1 hc hfn) ?_
  rw [if_neg k0]
  refine mGo_callP ok rfl (by omega) (c_bitOf (d := d) (j := aA F f) (by omega)) ?_
  refine mGo_run (n := 400) ok rfl ?_
  refine mGo_callP ok rfl (by omega) (c_secondOf (d := d) hf.2.1 hc hfn) ?_
  by_cases k2 : aK F f < 2
  · rw [if_pos k2]
    refine mGo_callP ok rfl (by omega) (c_bitOf0 (d := d)) ?_
    exact sw 0 (fun z => by omega)
  · rw [if_neg k2]
    have := w4 (by omega)
    refine mGo_callP ok rfl (by omega) (c_bitOf (d := d) (j := aB F f) (by omega)) ?_
    exact sw _ (fun _ => rfl)
theorem c_answer18 (hf : fOk F) (hc : cF σ F) {c o : Int64} (hcl : σ.2.1 18 5 = c) (hop : σ.2.1 18 6 = o) {man : Nat} (hman : σ.1 18 4 = nI man) (hm1 : man ≤ 1) {ms : List (Nat × Nat)} (hb : bM σ 18 ms) (hl : ms.length ≤ 120) {i r : Nat} {q : Nat × Nat} (hq : ms[i]? = some q) (ho : mvOk F q) (hr : r < rpN F q) : mNV g l (d + 3) 7 [.ref 18, .int (nI i), .int (nI r)] lk ex σ (fun σ1 => σ1 = mWL (mWL σ 18 7 (rpP F man c o q r).1) 18 8 (rpP F man c o q r).2) := by
  have hi : i < ms.length := (List.getElem?_eq_some_iff.mp hq).1
  obtain ⟨b1, b2⟩ := hb.2 i q hq
  obtain ⟨o1, o2, o3⟩ := ho
  obtain ⟨w1, w2, w3, w4, w5, w6⟩ := hf.2.2 q.2 o1
  have hn := hf.2.1
  have ci : (nI i).toNatClampNeg = i := nI_clamp (by omega)
  have hin : vp_in (nI i) 120 := nI_in (by omega) (by omega)
  have hr2 : r < 4 := by
    unfold rpN at hr
    have a1 : ∀ k, atk k ≤ 2 := fun k => by unfold atk; split <;> (try split) <;> omega
    have := a1 (aK F q.2)
    have := a1 (aK F (aA F q.2))
    split at hr
    · omega
    · split at hr
      · omega
      · split at hr
        · omega
        · split at hr <;> omega
  have ok : mOkP md_X0_answer := ok_at 7 (by decide) rfl
  refine mC_of (md := md_X0_answer) rfl (lt_at (by decide)) rfl ?_
  refine mGo_run (n := 400) ok rfl ?_
  refine mGo_callP ok rfl (by omega) (c_hasMove118 (d := d) hb.1 hl hi) ?_
  refine mGo_run (n := 400) ok rfl ?_
  refine mGo_if ok rfl (fun h => ?_) (fun h => ?_)
  · exact absurd h (by decide)
  · refine mGo_run (n := 400) ok rfl ?_
    refine mGo_side ok rfl (hin) ?_
    rw [ci, b2]
    refine mGo_run (n := 400) ok rfl ?_
    refine mGo_side ok rfl (hin) ?_
    rw [ci, b1]
    refine mGo_run (n := 400) ok rfl ?_
    refine mGo_callP ok rfl (by omega) (c_firstOf (d := d) hf.2.1 hc o1) ?_
    refine mGo_run (n := 400) ok rfl ?_
    refine mGo_callP ok rfl (by omega) (c_secondOf (d := d) hf.2.1 hc o1) ?_
    refine mGo_run (n := 400) ok rfl ?_
    refine mGo_if ok rfl (fun h1 => ?_) (fun h1 => ?_)
    · have e : q.1 = 0 := (nI_eq (a := q.1) (b := 0) (by omega) (by omega)).mp h1
      have k0 : aK F q.2 ≠ 0 := fun z => by rw [rpN, if_pos e, z] at hr; exact absurd hr (by simp [atk])
      refine mGo_run (n := 400) ok rfl ?_
      refine mGo_callV ok rfl (by omega) (c_attack18 (d := d) hf hc hcl hop hman hm1 o1 k0 (by omega)) (fun σ1 hσ1 => ?_)
      refine mGo_run (n := 400) ok rfl ?_
      exact mGo_ret ok rfl trivial (⟨rfl, rfl, by rw [rpP, if_pos e]; exact hσ1⟩)
    · have e : q.1 ≠ 0 := fun z => h1 (by rw [z]; rfl)
      obtain ⟨k0, k2⟩ := o3 e
      have hA := w3 k0
      rw [if_neg k0]
      refine mGo_run (n := 400) ok rfl ?_
      refine mGo_if ok rfl (fun h2 => ?_) (fun h2 => ?_)
      · have e2 : q.1 = 2 := (nI_eq (a := q.1) (b := 2) (by omega) (by omega)).mp h2
        refine mGo_run (n := 400) ok rfl ?_
        refine mGo_callV ok rfl (by omega) (c_concede18 (d := d) hcl hop (f := aA F q.2) (by omega)) (fun σ1 hσ1 => ?_)
        refine mGo_run (n := 400) ok rfl ?_
        exact mGo_ret ok rfl trivial (⟨rfl, rfl, by rw [rpP, if_neg e, if_pos e2]; exact hσ1⟩)
      · have e2 : q.1 ≠ 2 := fun z => h2 (by rw [z]; rfl)
        refine mGo_run (n := 400) ok rfl ?_
        refine mGo_if ok rfl (fun h3 => ?_) (fun h3 => ?_)
        · have e3 : q.1 = 3 := (nI_eq (a := q.1) (b := 3) (by omega) (by omega)).mp h3
          have k22 := k2.mp (Or.inr e3)
          have := w4 (by omega)
          rw [if_neg (by omega)]
          refine mGo_run (n := 400) ok rfl ?_
          refine mGo_callV ok rfl (by omega) (c_concede18 (d := d) hcl hop (f := aB F q.2) (by omega)) (fun σ1 hσ1 => ?_)
          refine mGo_run (n := 400) ok rfl ?_
          exact mGo_ret ok rfl trivial (⟨rfl, rfl, by rw [rpP, if_neg e, if_neg e2, if_pos e3]; exact hσ1⟩)
        · have e3 : q.1 ≠ 3 := fun z => h3 (by rw [z]; rfl)
          have n2 : aK F q.2 ≠ 2 := fun z => by rcases k2.mpr z with z | z <;> omega
          refine mGo_run (n := 400) ok rfl ?_
          refine mGo_callP ok rfl (by omega) (c_kindOf (d := d) hf.2.1 hc o1) ?_
          refine mGo_run (n := 400) ok rfl ?_
          refine mGo_if ok rfl (fun h4 => ?_) (fun h4 => ?_)
          · have e4 : aK F q.2 = 3 := (nI_eq (a := aK F q.2) (b := 3) (by omega) (by omega)).mp h4
            have := w4 (by omega)
            rw [if_neg (by omega)]
            refine mGo_run (n := 400) ok rfl ?_
            refine mGo_if ok rfl (fun h5 => ?_) (fun h5 => ?_)
            · have e5 : r = 0 := (nI_eq (a := r) (b := 0) (by omega) (by omega)).mp h5
              refine mGo_run (n := 400) ok rfl ?_
              refine mGo_callV ok rfl (by omega) (c_concede18 (d := d) hcl hop (f := aA F q.2) (by omega)) (fun σ1 hσ1 => ?_)
              refine mGo_run (n := 400) ok rfl ?_
              exact mGo_ret ok rfl trivial (⟨rfl, rfl, by rw [rpP, if_neg e, if_neg e2, if_neg e3, if_pos e4, if_pos e5]; exact hσ1⟩)
            · have e5 : r ≠ 0 := fun z => h5 (by rw [z]; rfl)
              refine mGo_run (n := 400) ok rfl ?_
              refine mGo_callV ok rfl (by omega) (c_concede18 (d := d) hcl hop (f := aB F q.2) (by omega)) (fun σ1 hσ1 => ?_)
              refine mGo_run (n := 400) ok rfl ?_
              exact mGo_ret ok rfl trivial (⟨rfl, rfl, by rw [rpP, if_neg e, if_neg e2, if_neg e3, if_pos e4, if_neg e5]; exact hσ1⟩)
          · have e4 : aK F q.2 ≠ 3 := fun z => h4 (by rw [z]; rfl)
            have a1 : atk (aK F (aA F q.2)) ≤ 2 := by unfold atk; split <;> (try split) <;> omega
            refine mGo_run (n := 400) ok rfl ?_
            refine mGo_callP ok rfl (by omega) (c_attacksOn (d := d) hf hc (j := aA F q.2) (by omega)) ?_
            refine mGo_run (n := 400) ok rfl ?_
            refine mGo_if ok rfl (fun h5 => ?_) (fun h5 => ?_)
            · have e5 : ¬ r < atk (aK F (aA F q.2)) := fun z => by
                have := (nI_leI (a := atk (aK F (aA F q.2))) (b := r) (by omega) (by omega)).mp h5
                omega
              have n1 : aK F q.2 ≠ 1 := fun z => by
                rw [rpN, if_neg e, if_pos z] at hr
                exact e5 hr
              have := w4 (by omega)
              rw [if_neg (by omega)]
              refine mGo_run (n := 400) ok rfl ?_
              refine mGo_callV ok rfl (by omega) (c_concede18 (d := d) hcl hop (f := aB F q.2) (by omega)) (fun σ1 hσ1 => ?_)
              refine mGo_run (n := 400) ok rfl ?_
              exact mGo_ret ok rfl trivial (⟨rfl, rfl, by rw [rpP, if_neg e, if_neg e2, if_neg e3, if_neg e4, if_neg e5]; exact hσ1⟩)
            · have e5 : r < atk (aK F (aA F q.2)) := by
                rcases Nat.lt_or_ge r (atk (aK F (aA F q.2))) with z | z
                · exact z
                · exact absurd (nI_le z (by omega)) h5
              have ka : aK F (aA F q.2) ≠ 0 := fun z => by rw [z] at e5; exact absurd e5 (by simp [atk])
              refine mGo_run (n := 400) ok rfl ?_
              refine mGo_callV ok rfl (by omega) (c_attack18 (d := d) hf hc hcl hop hman hm1 (f := aA F q.2) (by omega) ka (by omega)) (fun σ1 hσ1 => ?_)
              refine mGo_run (n := 400) ok rfl ?_
              exact mGo_ret ok rfl trivial (⟨rfl, rfl, by rw [rpP, if_neg e, if_neg e2, if_neg e3, if_neg e4, if_pos e5]; exact hσ1⟩)
theorem c_hasMove28 {ms : List (Nat × Nat)} (hb : σ.1 28 3 = nI ms.length) (hl : ms.length ≤ 120) (m : Int32) : mNP g l d 5 [.ref 28, .int m] lk ex σ (.int (if 0 ≤ m ∧ m < nI ms.length then 1 else 0)) := by
  have ok : mOkP md_X0_hasMove := ok_at 5 (by decide) rfl
  refine mC_of (md := md_X0_hasMove) rfl (lt_at (by decide)) rfl ?_
  refine mGo_run (n := 400) ok rfl ?_
  refine mGo_if ok rfl (fun h => ?_) (fun h => ?_)
  · refine mGo_run (n := 400) ok rfl ?_
    rw [if_neg (fun q => absurd h (Int32.not_lt.mpr q.1))]
    exact mGo_ret ok rfl (Or.inl rfl) (⟨rfl, rfl, rfl⟩)
  · refine mGo_run (n := 400) ok rfl ?_
    rw [hb]
    refine mGo_if ok rfl (fun h1 => ?_) (fun h1 => ?_)
    · refine mGo_run (n := 400) ok rfl ?_
      rw [if_neg (fun q => absurd q.2 (Int32.not_lt.mpr h1))]
      exact mGo_ret ok rfl (Or.inl rfl) (⟨rfl, rfl, rfl⟩)
    · refine mGo_run (n := 400) ok rfl ?_
      rw [if_pos ⟨Int32.not_lt.mp h, Int32.not_le.mp h1⟩]
      exact mGo_ret ok rfl (Or.inr rfl) (⟨rfl, rfl, rfl⟩)
theorem c_hasMove128 {ms : List (Nat × Nat)} (hb : σ.1 28 3 = nI ms.length) (hl : ms.length ≤ 120) {i : Nat} (hi : i < ms.length) : mNP g l d 5 [.ref 28, .int (nI i)] lk ex σ (.int 1) := by
  have h := c_hasMove28 (g := g) (l := l) (d := d) (lk := lk) (ex := ex) hb hl (nI i)
  rw [if_pos ((i_in (by omega)).mpr ⟨i, hi, rfl⟩)] at h
  exact h
theorem c_hasMove028 {ms : List (Nat × Nat)} (hb : σ.1 28 3 = nI ms.length) (hl : ms.length ≤ 120) {m : Int32} (hm : ¬ ∃ j, j < ms.length ∧ m = nI j) : mNP g l d 5 [.ref 28, .int m] lk ex σ (.int 0) := by
  have h := c_hasMove28 (g := g) (l := l) (d := d) (lk := lk) (ex := ex) hb hl m
  rw [if_neg (fun q => hm ((i_in (by omega)).mp q))] at h
  exact h
theorem c_repliesTo028 {ms : List (Nat × Nat)} (hb : σ.1 28 3 = nI ms.length) (hl : ms.length ≤ 120) {m : Int32} (hm : ¬ ∃ j, j < ms.length ∧ m = nI j) : mNP g l (d + 1) 6 [.ref 28, .int m] lk ex σ (.int 0) := by
  have ok : mOkP md_X0_repliesTo := ok_at 6 (by decide) rfl
  refine mC_of (md := md_X0_repliesTo) rfl (lt_at (by decide)) rfl ?_
  refine mGo_run (n := 400) ok rfl ?_
  refine mGo_callP ok rfl (by omega) (c_hasMove028 (d := d) hb hl hm) ?_
  refine mGo_run (n := 400) ok rfl ?_
  refine mGo_if ok rfl (fun h => ?_) (fun h => ?_)
  · refine mGo_run (n := 400) ok rfl ?_
    exact mGo_ret ok rfl trivial (⟨rfl, rfl, rfl⟩)
  · exact absurd rfl h
theorem c_repliesTo28 (hf : fOk F) (hc : cF σ F) {ms : List (Nat × Nat)} (hb : bM σ 28 ms) (hl : ms.length ≤ 120) {i : Nat} {q : Nat × Nat} (hq : ms[i]? = some q) (ho : mvOk F q) : mNP g l (d + 2) 6 [.ref 28, .int (nI i)] lk ex σ (.int (nI (rpN F q))) := by
  have hi : i < ms.length := (List.getElem?_eq_some_iff.mp hq).1
  obtain ⟨b1, b2⟩ := hb.2 i q hq
  obtain ⟨o1, o2, o3⟩ := ho
  obtain ⟨w1, w2, w3, w4, w5, w6⟩ := hf.2.2 q.2 o1
  have hn := hf.2.1
  have ci : (nI i).toNatClampNeg = i := nI_clamp (by omega)
  have hin : vp_in (nI i) 120 := nI_in (by omega) (by omega)
  have ok : mOkP md_X0_repliesTo := ok_at 6 (by decide) rfl
  refine mC_of (md := md_X0_repliesTo) rfl (lt_at (by decide)) rfl ?_
  refine mGo_run (n := 400) ok rfl ?_
  refine mGo_callP ok rfl (by omega) (c_hasMove128 (d := d + 1) hb.1 hl hi) ?_
  refine mGo_run (n := 400) ok rfl ?_
  refine mGo_if ok rfl (fun h => ?_) (fun h => ?_)
  · exact absurd h (by decide)
  · refine mGo_run (n := 400) ok rfl ?_
    refine mGo_side ok rfl (hin) ?_
    rw [ci, b2]
    refine mGo_run (n := 400) ok rfl ?_
    refine mGo_side ok rfl (hin) ?_
    rw [ci, b1]
    refine mGo_run (n := 400) ok rfl ?_
    refine mGo_if ok rfl (fun h1 => ?_) (fun h1 => ?_)
    · have e : q.1 = 0 := (nI_eq (a := q.1) (b := 0) (by omega) (by omega)).mp h1
      refine mGo_run (n := 400) ok rfl ?_
      refine mGo_callP ok rfl (by omega) (c_attacksOn (d := d) hf hc o1) ?_
      refine mGo_run (n := 400) ok rfl ?_
      exact mGo_ret ok rfl trivial (⟨by rw [rpN, if_pos e], rfl, rfl⟩)
    · have e : q.1 ≠ 0 := fun z => h1 (by rw [z]; rfl)
      obtain ⟨k0, k2⟩ := o3 e
      have hA := w3 k0
      refine mGo_run (n := 400) ok rfl ?_
      refine mGo_callP ok rfl (by omega) (c_kindOf (d := d) hf.2.1 hc o1) ?_
      refine mGo_sw ok rfl ⟨fun h2 => ?_, fun h2 => ⟨fun h3 => ?_, fun h3 => ⟨fun h4 => ?_, fun h4 => ?_⟩⟩⟩
      · have e1 : aK F q.2 = 1 := (nI_eq (a := aK F q.2) (b := 1) (by omega) (by omega)).mp h2
        refine mGo_run (n := 400) ok rfl ?_
        refine mGo_callP ok rfl (by omega) (c_firstOf (d := d) hf.2.1 hc o1) ?_
        rw [if_neg k0]
        refine mGo_callP ok rfl (by omega) (c_attacksOn (d := d) hf hc (j := aA F q.2) (by omega)) ?_
        refine mGo_run (n := 400) ok rfl ?_
        exact mGo_ret ok rfl trivial (⟨by rw [rpN, if_neg e, if_pos e1], rfl, rfl⟩)
      · have e1 : aK F q.2 = 2 := (nI_eq (a := aK F q.2) (b := 2) (by omega) (by omega)).mp h3
        refine mGo_run (n := 400) ok rfl ?_
        exact mGo_ret ok rfl trivial (⟨by rw [rpN, if_neg e, if_neg (by omega), if_pos e1]; rfl, rfl, rfl⟩)
      · have e1 : aK F q.2 = 3 := (nI_eq (a := aK F q.2) (b := 3) (by omega) (by omega)).mp h4
        refine mGo_run (n := 400) ok rfl ?_
        exact mGo_ret ok rfl trivial (⟨by rw [rpN, if_neg e, if_neg (by omega), if_neg (by omega), if_pos e1]; rfl, rfl, rfl⟩)
      · have n1 : aK F q.2 ≠ 1 := fun z => h2 (by rw [z]; rfl)
        have n2 : aK F q.2 ≠ 2 := fun z => h3 (by rw [z]; rfl)
        have n3 : aK F q.2 ≠ 3 := fun z => h4 (by rw [z]; rfl)
        refine mGo_run (n := 400) ok rfl ?_
        refine mGo_callP ok rfl (by omega) (c_firstOf (d := d) hf.2.1 hc o1) ?_
        rw [if_neg k0]
        refine mGo_callP ok rfl (by omega) (c_attacksOn (d := d) hf hc (j := aA F q.2) (by omega)) ?_
        refine mGo_run (n := 400) ok rfl ?_
        exact mGo_ret ok rfl trivial (⟨by rw [rpN, if_neg e, if_neg n1, if_neg n2, if_neg n3, nI_1], rfl, rfl⟩)
theorem c_concede28 {c o : Int64} (hc : σ.2.1 28 5 = c) (ho : σ.2.1 28 6 = o) {f : Nat} (hf : f < 40) : mNV g l (d + 1) 8 [.ref 28, .int (nI f)] lk ex σ (fun σ1 => σ1 = mWL (mWL σ 28 7 (c ||| bit f)) 28 8 o) := by
  have ok : mOkP md_X0_concede := ok_at 8 (by decide) rfl
  refine mC_of (md := md_X0_concede) rfl (lt_at (by decide)) rfl ?_
  refine mGo_run (n := 400) ok rfl ?_
  refine mGo_callP ok rfl (by omega) (c_bitOf (d := d) (j := f) (by omega)) ?_
  refine mGo_run (n := 400) ok rfl ?_
  rw [hc, show (mWL σ 28 7 (c ||| bit f)).2.1 28 6 = o by simp [WL_at, ho]]
  exact mGo_ret ok rfl trivial (⟨rfl, rfl, rfl⟩)
theorem c_attack28 (hf : fOk F) (hc : cF σ F) {c o : Int64} (hcl : σ.2.1 28 5 = c) (hop : σ.2.1 28 6 = o) {man : Nat} (hman : σ.1 28 4 = nI man) (hm1 : man ≤ 1) {f r : Nat} (hfn : f < aN F) (k0 : aK F f ≠ 0) (hr : r < 2 ^ 31) : mNV g l (d + 1) 9 [.ref 28, .int (nI f), .int (nI r)] lk ex σ (fun σ1 => σ1 = mWL (mWL σ 28 7 (atP2 F man c o f r).1) 28 8 (atP2 F man c o f r).2) := by
  obtain ⟨w1, w2, w3, w4, w5, w6⟩ := hf.2.2 f hfn
  have hn := hf.2.1
  have hA := w3 k0
  have ok : mOkP md_X0_attack := ok_at 9 (by decide) rfl
  refine mC_of (md := md_X0_attack) rfl (lt_at (by decide)) rfl ?_
  have tail : ∀ (cl df : Int64) (L3 L5 : Option Value), (atP2 F man c o f r) = (c ||| cl, if man = 1 then o ||| df else df) → mGo g l (d + 1) md_X0_attack (SH lk ex).length (mTot (SH lk ex)) (108, [some (.ref 28), some (.int (nI f)), some (.int (nI r)), L3, none, L5, none, some (.long cl), none, some (.long df), none], [], SH lk ex, σ) (fun r1 sp σ1 => r1 = none ∧ sp = SH lk ex ∧ σ1 = mWL (mWL σ 28 7 (atP2 F man c o f r).1) 28 8 (atP2 F man c o f r).2) := by
    intro cl df L3 L5 he
    rw [he]
    refine mGo_run (n := 400) ok rfl ?_
    rw [hcl, show (mWL σ 28 7 (c ||| cl)).1 28 4 = nI man from hman]
    refine mGo_if ok rfl (fun h => ?_) (fun h => ?_)
    · have e : man = 1 := (nI_eq (a := man) (b := 1) (by omega) (by omega)).mp h
      refine mGo_run (n := 400) ok rfl ?_
      rw [show (mWL σ 28 7 (c ||| cl)).2.1 28 6 = o by simp [WL_at, hop], if_pos e]
      exact mGo_ret ok rfl trivial (⟨rfl, rfl, rfl⟩)
    · have e : man ≠ 1 := fun z => h (by rw [z]; rfl)
      refine mGo_run (n := 400) ok rfl ?_
      rw [if_neg e]
      exact mGo_ret ok rfl trivial (⟨rfl, rfl, rfl⟩)
  have sw : ∀ sb : Int64, (2 ≤ aK F f → sb = bit (aB F f)) → mGo g l (d + 1) md_X0_attack (SH lk ex).length (mTot (SH lk ex)) (23, [some (.ref 28), some (.int (nI f)), some (.int (nI r)), some (.long (bit (aA F f))), none, none, none, none, none, none, none], [.long sb], SH lk ex, σ) (fun r1 sp σ1 => r1 = none ∧ sp = SH lk ex ∧ σ1 = mWL (mWL σ 28 7 (atP2 F man c o f r).1) 28 8 (atP2 F man c o f r).2) := by
    intro sb hsb
    refine mGo_run (n := 400) ok rfl ?_
    refine mGo_callP ok rfl (by omega) (c_kindOf (d := d) hf.2.1 hc hfn) ?_
    refine mGo_sw ok rfl ⟨fun h2 => ?_, fun h2 => ⟨fun h3 => ?_, fun h3 => ⟨fun h4 => ?_, fun h4 => ⟨fun h5 => ?_, fun h5 => ?_⟩⟩⟩⟩
    · have e1 : aK F f = 1 := (nI_eq (a := aK F f) (b := 1) (by omega) (by omega)).mp h2
      refine mGo_runS 108 (n := 400) ok rfl ?_
      exact tail _ _ _ _ (by simp [atP2, e1])
    · have e1 : aK F f = 2 := (nI_eq (a := aK F f) (b := 2) (by omega) (by omega)).mp h3
      refine mGo_run (n := 400) ok rfl ?_
      refine mGo_if ok rfl (fun h6 => ?_) (fun h6 => ?_)
      · have e2 : r = 0 := (nI_eq (a := r) (b := 0) (by omega) (by omega)).mp h6
        refine mGo_runS 108 (n := 400) ok rfl ?_
        exact tail _ _ _ _ (by simp [atP2, e1, e2])
      · have e2 : r ≠ 0 := fun z => h6 (by rw [z]; rfl)
        refine mGo_runS 108 (n := 400) ok rfl ?_
        exact tail _ _ _ _ (by rw [hsb (by omega)]; simp [atP2, e1, e2])
    · have e1 : aK F f = 3 := (nI_eq (a := aK F f) (b := 3) (by omega) (by omega)).mp h4
      refine mGo_runS 108 (n := 400) ok rfl ?_
      exact tail _ _ _ _ (by rw [hsb (by omega)]; simp [atP2, e1])
    · have e1 : aK F f = 4 := (nI_eq (a := aK F f) (b := 4) (by omega) (by omega)).mp h5
      refine mGo_runS 108 (n := 400) ok rfl ?_
      exact tail _ _ _ _ (by rw [hsb (by omega)]; simp [atP2, e1])
    · exfalso
      have n1 : aK F f ≠ 1 := fun z => h2 (by rw [z]; rfl)
      have n2 : aK F f ≠ 2 := fun z => h3 (by rw [z]; rfl)
      have n3 : aK F f ≠ 3 := fun z => h4 (by rw [z]; rfl)
      have n4 : aK F f ≠ 4 := fun z => h5 (by rw [z]; rfl)
      omega
  refine mGo_run (n := 400) ok rfl ?_
  refine mGo_callP ok rfl (by omega) (c_firstOf (d := d) hf.2.1 hc hfn) ?_
  rw [if_neg k0]
  refine mGo_callP ok rfl (by omega) (c_bitOf (d := d) (j := aA F f) (by omega)) ?_
  refine mGo_run (n := 400) ok rfl ?_
  refine mGo_callP ok rfl (by omega) (c_secondOf (d := d) hf.2.1 hc hfn) ?_
  by_cases k2 : aK F f < 2
  · rw [if_pos k2]
    refine mGo_callP ok rfl (by omega) (c_bitOf0 (d := d)) ?_
    exact sw 0 (fun z => by omega)
  · rw [if_neg k2]
    have := w4 (by omega)
    refine mGo_callP ok rfl (by omega) (c_bitOf (d := d) (j := aB F f) (by omega)) ?_
    exact sw _ (fun _ => rfl)
theorem c_answer28 (hf : fOk F) (hc : cF σ F) {c o : Int64} (hcl : σ.2.1 28 5 = c) (hop : σ.2.1 28 6 = o) {man : Nat} (hman : σ.1 28 4 = nI man) (hm1 : man ≤ 1) {ms : List (Nat × Nat)} (hb : bM σ 28 ms) (hl : ms.length ≤ 120) {i r : Nat} {q : Nat × Nat} (hq : ms[i]? = some q) (ho : mvOk F q) (hr : r < rpN F q) : mNV g l (d + 3) 7 [.ref 28, .int (nI i), .int (nI r)] lk ex σ (fun σ1 => σ1 = mWL (mWL σ 28 7 (rpP F man c o q r).1) 28 8 (rpP F man c o q r).2) := by
  have hi : i < ms.length := (List.getElem?_eq_some_iff.mp hq).1
  obtain ⟨b1, b2⟩ := hb.2 i q hq
  obtain ⟨o1, o2, o3⟩ := ho
  obtain ⟨w1, w2, w3, w4, w5, w6⟩ := hf.2.2 q.2 o1
  have hn := hf.2.1
  have ci : (nI i).toNatClampNeg = i := nI_clamp (by omega)
  have hin : vp_in (nI i) 120 := nI_in (by omega) (by omega)
  have hr2 : r < 4 := by
    unfold rpN at hr
    have a1 : ∀ k, atk k ≤ 2 := fun k => by unfold atk; split <;> (try split) <;> omega
    have := a1 (aK F q.2)
    have := a1 (aK F (aA F q.2))
    split at hr
    · omega
    · split at hr
      · omega
      · split at hr
        · omega
        · split at hr <;> omega
  have ok : mOkP md_X0_answer := ok_at 7 (by decide) rfl
  refine mC_of (md := md_X0_answer) rfl (lt_at (by decide)) rfl ?_
  refine mGo_run (n := 400) ok rfl ?_
  refine mGo_callP ok rfl (by omega) (c_hasMove128 (d := d) hb.1 hl hi) ?_
  refine mGo_run (n := 400) ok rfl ?_
  refine mGo_if ok rfl (fun h => ?_) (fun h => ?_)
  · exact absurd h (by decide)
  · refine mGo_run (n := 400) ok rfl ?_
    refine mGo_side ok rfl (hin) ?_
    rw [ci, b2]
    refine mGo_run (n := 400) ok rfl ?_
    refine mGo_side ok rfl (hin) ?_
    rw [ci, b1]
    refine mGo_run (n := 400) ok rfl ?_
    refine mGo_callP ok rfl (by omega) (c_firstOf (d := d) hf.2.1 hc o1) ?_
    refine mGo_run (n := 400) ok rfl ?_
    refine mGo_callP ok rfl (by omega) (c_secondOf (d := d) hf.2.1 hc o1) ?_
    refine mGo_run (n := 400) ok rfl ?_
    refine mGo_if ok rfl (fun h1 => ?_) (fun h1 => ?_)
    · have e : q.1 = 0 := (nI_eq (a := q.1) (b := 0) (by omega) (by omega)).mp h1
      have k0 : aK F q.2 ≠ 0 := fun z => by rw [rpN, if_pos e, z] at hr; exact absurd hr (by simp [atk])
      refine mGo_run (n := 400) ok rfl ?_
      refine mGo_callV ok rfl (by omega) (c_attack28 (d := d) hf hc hcl hop hman hm1 o1 k0 (by omega)) (fun σ1 hσ1 => ?_)
      refine mGo_run (n := 400) ok rfl ?_
      exact mGo_ret ok rfl trivial (⟨rfl, rfl, by rw [rpP, if_pos e]; exact hσ1⟩)
    · have e : q.1 ≠ 0 := fun z => h1 (by rw [z]; rfl)
      obtain ⟨k0, k2⟩ := o3 e
      have hA := w3 k0
      rw [if_neg k0]
      refine mGo_run (n := 400) ok rfl ?_
      refine mGo_if ok rfl (fun h2 => ?_) (fun h2 => ?_)
      · have e2 : q.1 = 2 := (nI_eq (a := q.1) (b := 2) (by omega) (by omega)).mp h2
        refine mGo_run (n := 400) ok rfl ?_
        refine mGo_callV ok rfl (by omega) (c_concede28 (d := d) hcl hop (f := aA F q.2) (by omega)) (fun σ1 hσ1 => ?_)
        refine mGo_run (n := 400) ok rfl ?_
        exact mGo_ret ok rfl trivial (⟨rfl, rfl, by rw [rpP, if_neg e, if_pos e2]; exact hσ1⟩)
      · have e2 : q.1 ≠ 2 := fun z => h2 (by rw [z]; rfl)
        refine mGo_run (n := 400) ok rfl ?_
        refine mGo_if ok rfl (fun h3 => ?_) (fun h3 => ?_)
        · have e3 : q.1 = 3 := (nI_eq (a := q.1) (b := 3) (by omega) (by omega)).mp h3
          have k22 := k2.mp (Or.inr e3)
          have := w4 (by omega)
          rw [if_neg (by omega)]
          refine mGo_run (n := 400) ok rfl ?_
          refine mGo_callV ok rfl (by omega) (c_concede28 (d := d) hcl hop (f := aB F q.2) (by omega)) (fun σ1 hσ1 => ?_)
          refine mGo_run (n := 400) ok rfl ?_
          exact mGo_ret ok rfl trivial (⟨rfl, rfl, by rw [rpP, if_neg e, if_neg e2, if_pos e3]; exact hσ1⟩)
        · have e3 : q.1 ≠ 3 := fun z => h3 (by rw [z]; rfl)
          have n2 : aK F q.2 ≠ 2 := fun z => by rcases k2.mpr z with z | z <;> omega
          refine mGo_run (n := 400) ok rfl ?_
          refine mGo_callP ok rfl (by omega) (c_kindOf (d := d) hf.2.1 hc o1) ?_
          refine mGo_run (n := 400) ok rfl ?_
          refine mGo_if ok rfl (fun h4 => ?_) (fun h4 => ?_)
          · have e4 : aK F q.2 = 3 := (nI_eq (a := aK F q.2) (b := 3) (by omega) (by omega)).mp h4
            have := w4 (by omega)
            rw [if_neg (by omega)]
            refine mGo_run (n := 400) ok rfl ?_
            refine mGo_if ok rfl (fun h5 => ?_) (fun h5 => ?_)
            · have e5 : r = 0 := (nI_eq (a := r) (b := 0) (by omega) (by omega)).mp h5
              refine mGo_run (n := 400) ok rfl ?_
              refine mGo_callV ok rfl (by omega) (c_concede28 (d := d) hcl hop (f := aA F q.2) (by omega)) (fun σ1 hσ1 => ?_)
              refine mGo_run (n := 400) ok rfl ?_
              exact mGo_ret ok rfl trivial (⟨rfl, rfl, by rw [rpP, if_neg e, if_neg e2, if_neg e3, if_pos e4, if_pos e5]; exact hσ1⟩)
            · have e5 : r ≠ 0 := fun z => h5 (by rw [z]; rfl)
              refine mGo_run (n := 400) ok rfl ?_
              refine mGo_callV ok rfl (by omega) (c_concede28 (d := d) hcl hop (f := aB F q.2) (by omega)) (fun σ1 hσ1 => ?_)
              refine mGo_run (n := 400) ok rfl ?_
              exact mGo_ret ok rfl trivial (⟨rfl, rfl, by rw [rpP, if_neg e, if_neg e2, if_neg e3, if_pos e4, if_neg e5]; exact hσ1⟩)
          · have e4 : aK F q.2 ≠ 3 := fun z => h4 (by rw [z]; rfl)
            have a1 : atk (aK F (aA F q.2)) ≤ 2 := by unfold atk; split <;> (try split) <;> omega
            refine mGo_run (n := 400) ok rfl ?_
            refine mGo_callP ok rfl (by omega) (c_attacksOn (d := d) hf hc (j := aA F q.2) (by omega)) ?_
            refine mGo_run (n := 400) ok rfl ?_
            refine mGo_if ok rfl (fun h5 => ?_) (fun h5 => ?_)
            · have e5 : ¬ r < atk (aK F (aA F q.2)) := fun z => by
                have := (nI_leI (a := atk (aK F (aA F q.2))) (b := r) (by omega) (by omega)).mp h5
                omega
              have n1 : aK F q.2 ≠ 1 := fun z => by
                rw [rpN, if_neg e, if_pos z] at hr
                exact e5 hr
              have := w4 (by omega)
              rw [if_neg (by omega)]
              refine mGo_run (n := 400) ok rfl ?_
              refine mGo_callV ok rfl (by omega) (c_concede28 (d := d) hcl hop (f := aB F q.2) (by omega)) (fun σ1 hσ1 => ?_)
              refine mGo_run (n := 400) ok rfl ?_
              exact mGo_ret ok rfl trivial (⟨rfl, rfl, by rw [rpP, if_neg e, if_neg e2, if_neg e3, if_neg e4, if_neg e5]; exact hσ1⟩)
            · have e5 : r < atk (aK F (aA F q.2)) := by
                rcases Nat.lt_or_ge r (atk (aK F (aA F q.2))) with z | z
                · exact z
                · exact absurd (nI_le z (by omega)) h5
              have ka : aK F (aA F q.2) ≠ 0 := fun z => by rw [z] at e5; exact absurd e5 (by simp [atk])
              refine mGo_run (n := 400) ok rfl ?_
              refine mGo_callV ok rfl (by omega) (c_attack28 (d := d) hf hc hcl hop hman hm1 (f := aA F q.2) (by omega) ka (by omega)) (fun σ1 hσ1 => ?_)
              refine mGo_run (n := 400) ok rfl ?_
              exact mGo_ret ok rfl trivial (⟨rfl, rfl, by rw [rpP, if_neg e, if_neg e2, if_neg e3, if_neg e4, if_pos e5]; exact hσ1⟩)
end T
