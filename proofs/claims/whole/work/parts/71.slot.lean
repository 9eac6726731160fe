/-! the class Slot: what it holds, without its arithmetic -/
def qCov (n : Nat) (i c : Int32) : Prop := 0 ≤ i ∧ 0 ≤ c ∧ i ≤ nI n ∧ c ≤ nI n - i
theorem qCov_iff {n : Nat} (hn : n ≤ 40) {i c : Int32} : qCov n i c ↔ ∃ a k : Nat, i = nI a ∧ c = nI k ∧ a + k ≤ n := by
  constructor
  · rintro ⟨h1, h2, h3, h4⟩
    obtain ⟨a, ha, rfl⟩ := nI_of (x := i) (Int32.not_lt.mpr h1)
    obtain ⟨k, hk, rfl⟩ := nI_of (x := c) (Int32.not_lt.mpr h2)
    have e1 := (nI_leI ha (by omega)).mp h3
    rw [pk_sub e1] at h4
    have e2 := (nI_leI hk (by omega)).mp h4
    exact ⟨a, k, rfl, rfl, by omega⟩
  · rintro ⟨a, k, rfl, rfl, h⟩
    refine ⟨nI_pos' (by omega), nI_pos' (by omega), nI_le (by omega) (by omega), ?_⟩
    rw [pk_sub (by omega)]
    exact nI_le (by omega) (by omega)
def covB (n : Nat) (i c : Int32) : Bool := decide (0 ≤ i) && (decide (0 ≤ c) && (decide (i ≤ nI n) && decide (c ≤ nI n - i)))
theorem covB_iff {n : Nat} {i c : Int32} : covB n i c = true ↔ qCov n i c := by unfold covB qCov; simp
theorem cov1 {n a : Nat} (hn : n ≤ 40) (ha : a < n) : covB n (nI a) 1 = true := covB_iff.mpr ((qCov_iff hn).mpr ⟨a, 1, rfl, rfl, by omega⟩)
/-- an element as the class tells it -/
def rdV (t : Nat) (w : Int64) (m : Int32) (x : UInt64) : Int64 := if t < 2 then w else if m = 1 then 9223372036854775807 else if m = 2 then -9223372036854775808 else if m = 3 then 0 else FP.d2l x
section T
variable {g : mG} {l : Launch} {d : Nat} {lk : Nat} {ex : mSh} {σ : mHp}
theorem c_isEmpty32 : mNP g l d 48 [.ref 32] lk ex σ (.int (if σ.1 32 3 = -1 then 1 else 0)) := by
  have ok : mOkP md_X5_isEmpty := ok_at 48 (by decide) rfl
  refine mC_of (md := md_X5_isEmpty) rfl (lt_at (by decide)) rfl ?_
  refine mGo_run (n := 400) ok rfl ?_
  refine mGo_if ok rfl (fun h => ?_) (fun h => ?_)
  · refine mGo_run (n := 400) ok rfl ?_
    rw [if_pos h]
    exact mGo_ret ok rfl (Or.inr rfl) (⟨rfl, rfl, rfl⟩)
  · refine mGo_run (n := 400) ok rfl ?_
    rw [if_neg h]
    exact mGo_ret ok rfl (Or.inl rfl) (⟨rfl, rfl, rfl⟩)
theorem c_holdsReals32 : mNP g l d 49 [.ref 32] lk ex σ (.int (if σ.1 32 3 = 2 ∨ σ.1 32 3 = 3 then 1 else 0)) := by
  have ok : mOkP md_X5_holdsReals := ok_at 49 (by decide) rfl
  refine mC_of (md := md_X5_holdsReals) rfl (lt_at (by decide)) rfl ?_
  refine mGo_run (n := 400) ok rfl ?_
  refine mGo_if ok rfl (fun h => ?_) (fun h => ?_)
  · refine mGo_run (n := 400) ok rfl ?_
    rw [if_pos (Or.inl h)]
    exact mGo_ret ok rfl (Or.inr rfl) (⟨rfl, rfl, rfl⟩)
  · refine mGo_run (n := 400) ok rfl ?_
    refine mGo_if ok rfl (fun h1 => ?_) (fun h1 => ?_)
    · refine mGo_run (n := 400) ok rfl ?_
      rw [if_pos (Or.inr h1)]
      exact mGo_ret ok rfl (Or.inr rfl) (⟨rfl, rfl, rfl⟩)
    · refine mGo_run (n := 400) ok rfl ?_
      rw [if_neg (fun z => z.elim h h1)]
      exact mGo_ret ok rfl (Or.inl rfl) (⟨rfl, rfl, rfl⟩)
theorem c_covers32 {n : Nat} (hl : σ.1 32 4 = nI n) (i c : Int32) : mNP g l d 50 [.ref 32, .int i, .int c] lk ex σ (.int (bI (covB n i c))) := by
  have ok : mOkP md_X5_covers := ok_at 50 (by decide) rfl
  refine mC_of (md := md_X5_covers) rfl (lt_at (by decide)) rfl ?_
  have no : ¬ qCov n i c → mGo g l d md_X5_covers (SH lk ex).length (mTot (SH lk ex)) (30, [some (.ref 32), some (.int i), some (.int c)], [], SH lk ex, σ) (fun r sp σ1 => r = some (.int (bI (covB n i c))) ∧ sp = SH lk ex ∧ σ1 = σ) := by
    intro hq
    have e : covB n i c = false := by
      cases hh : covB n i c with
      | false => rfl
      | true => exact absurd (covB_iff.mp hh) hq
    rw [e]
    refine mGo_run (n := 400) ok rfl ?_
    exact mGo_ret ok rfl (Or.inl rfl) (⟨rfl, rfl, rfl⟩)
  refine mGo_run (n := 400) ok rfl ?_
  refine mGo_if ok rfl (fun h => ?_) (fun h => ?_)
  · exact no (fun z => absurd h (Int32.not_lt.mpr z.1))
  · refine mGo_run (n := 400) ok rfl ?_
    refine mGo_if ok rfl (fun h1 => ?_) (fun h1 => ?_)
    · exact no (fun z => absurd h1 (Int32.not_lt.mpr z.2.1))
    · refine mGo_run (n := 400) ok rfl ?_
      rw [hl]
      refine mGo_if ok rfl (fun h2 => ?_) (fun h2 => ?_)
      · exact no (fun z => absurd h2 (Int32.not_lt.mpr z.2.2.1))
      · refine mGo_run (n := 400) ok rfl ?_
        rw [hl]
        refine mGo_if ok rfl (fun h3 => ?_) (fun h3 => ?_)
        · exact no (fun z => absurd h3 (Int32.not_lt.mpr z.2.2.2))
        · rw [covB_iff.mpr ⟨Int32.not_lt.mp h, Int32.not_lt.mp h1, Int32.not_lt.mp h2, Int32.not_lt.mp h3⟩]
          refine mGo_run (n := 400) ok rfl ?_
          exact mGo_ret ok rfl (Or.inr rfl) (⟨rfl, rfl, rfl⟩)
theorem c_fillL32 (v : Int64) : mNV g l d 197 [.ref 33, .long v] lk ex σ (fun σ1 => fr 33 34 σ σ1 ∧ ∀ i, i < 40 → σ1.2.1 33 i = v) := by
  have ok : mOkP md_J7_fillL := ok_at 197 (by decide) rfl
  refine mC_of (md := md_J7_fillL) rfl (lt_at (by decide)) rfl ?_
  refine mGo_runS 6 (n := 400) ok rfl ?_
  have loop : ∀ m i, i + m = 40 → ∀ τ : mHp, fr 33 34 σ τ → (∀ j, j < i → τ.2.1 33 j = v) → mGo g l d md_J7_fillL (SH lk ex).length (mTot (SH lk ex)) (6, [some (.ref 33), some (.long v), none, some (.int (nI i)), some (.int (nI 40))], [], SH lk ex, τ) (fun r sp σ1 => r = none ∧ sp = SH lk ex ∧ (fr 33 34 σ σ1 ∧ ∀ i, i < 40 → σ1.2.1 33 i = v)) := by
    intro m
    induction m with
    | zero =>
      intro i hi τ t1 t2
      refine mGo_run (n := 400) ok rfl ?_
      refine mGo_ifI ok rfl (nI_leI (a := 40) (b := i) (by omega) (by omega)) (fun h => ?_) (fun h => ?_)
      · refine mGo_run (n := 400) ok rfl ?_
        exact mGo_ret ok rfl trivial (⟨rfl, rfl, t1, fun j hj => t2 j (by omega)⟩)
      · omega
    | succ m ih =>
      intro i hi τ t1 t2
      refine mGo_run (n := 400) ok rfl ?_
      refine mGo_ifI ok rfl (nI_leI (a := 40) (b := i) (by omega) (by omega)) (fun h => ?_) (fun h => ?_)
      · omega
      · refine mGo_run (n := 400) ok rfl ?_
        refine mGo_side ok rfl (nI_in (by omega) (by omega)) ?_
        rw [nI_clamp (by omega)]
        refine mGo_runS 6 (n := 400) ok rfl ?_
        rw [nI_1]
        refine ih (i + 1) (by omega) _ (t1.WL (by omega) (by omega)) (fun j hj => ?_)
        rw [WL_at]
        by_cases z : j = i
        · rw [if_pos ⟨rfl, z⟩]
        · rw [if_neg (fun y => z y.2)]; exact t2 j (by omega)
  exact loop 40 0 (by omega) σ fr.refl (fun j hj => by omega)
theorem c_fillD32 (v : UInt64) : mNV g l d 195 [.ref 34, .double v] lk ex σ (fun σ1 => fr 34 35 σ σ1 ∧ ∀ i, i < 40 → σ1.2.2 34 i = v) := by
  have ok : mOkP md_J7_fillD := ok_at 195 (by decide) rfl
  refine mC_of (md := md_J7_fillD) rfl (lt_at (by decide)) rfl ?_
  refine mGo_runS 6 (n := 400) ok rfl ?_
  have loop : ∀ m i, i + m = 40 → ∀ τ : mHp, fr 34 35 σ τ → (∀ j, j < i → τ.2.2 34 j = v) → mGo g l d md_J7_fillD (SH lk ex).length (mTot (SH lk ex)) (6, [some (.ref 34), some (.double v), none, some (.int (nI i)), some (.int (nI 40))], [], SH lk ex, τ) (fun r sp σ1 => r = none ∧ sp = SH lk ex ∧ (fr 34 35 σ σ1 ∧ ∀ i, i < 40 → σ1.2.2 34 i = v)) := by
    intro m
    induction m with
    | zero =>
      intro i hi τ t1 t2
      refine mGo_run (n := 400) ok rfl ?_
      refine mGo_ifI ok rfl (nI_leI (a := 40) (b := i) (by omega) (by omega)) (fun h => ?_) (fun h => ?_)
      · refine mGo_run (n := 400) ok rfl ?_
        exact mGo_ret ok rfl trivial (⟨rfl, rfl, t1, fun j hj => t2 j (by omega)⟩)
      · omega
    | succ m ih =>
      intro i hi τ t1 t2
      refine mGo_run (n := 400) ok rfl ?_
      refine mGo_ifI ok rfl (nI_leI (a := 40) (b := i) (by omega) (by omega)) (fun h => ?_) (fun h => ?_)
      · omega
      · refine mGo_run (n := 400) ok rfl ?_
        refine mGo_side ok rfl (nI_in (by omega) (by omega)) ?_
        rw [nI_clamp (by omega)]
        refine mGo_runS 6 (n := 400) ok rfl ?_
        rw [nI_1]
        refine ih (i + 1) (by omega) _ (t1.WD (by omega) (by omega)) (fun j hj => ?_)
        rw [WD_at]
        by_cases z : j = i
        · rw [if_pos ⟨rfl, z⟩]
        · rw [if_neg (fun y => z y.2)]; exact t2 j (by omega)
  exact loop 40 0 (by omega) σ fr.refl (fun j hj => by omega)
theorem c_fillAnew32 (t z : Int32) : mNV g l (d + 1) 51 [.ref 32, .int t, .int z] lk ex σ (fun σ1 => fr 32 36 σ σ1 ∧ σ1.1 32 3 = t ∧ σ1.1 32 4 = z ∧ ∀ i, i < 40 → σ1.2.1 33 i = 0 ∧ σ1.2.2 34 i = 0 ∧ σ1.1 35 i = 0) := by
  have ok : mOkP md_X5_fillAnew := ok_at 51 (by decide) rfl
  refine mC_of (md := md_X5_fillAnew) rfl (lt_at (by decide)) rfl ?_
  refine mGo_run (n := 400) ok rfl ?_
  refine mGo_callV ok rfl (by omega) (c_fillL32 (d := d) 0) (fun τ1 hτ1 => ?_)
  obtain ⟨a1, a2⟩ := hτ1
  refine mGo_run (n := 400) ok rfl ?_
  refine mGo_callV ok rfl (by omega) (c_fillD32 (d := d) 0) (fun τ2 hτ2 => ?_)
  obtain ⟨b1, b2⟩ := hτ2
  refine mGo_run (n := 400) ok rfl ?_
  refine mGo_callV ok rfl (by omega) (c_fillI (d := d) (q := 35) (n := 40) rfl (by omega) (by omega) 0) (fun τ3 hτ3 => ?_)
  have c1 : fr 35 36 τ2 τ3 := by
    intro i hi
    rw [hτ3]
    exact ⟨if_neg (by omega), rfl, rfl⟩
  have c2 : ∀ i, i < 40 → τ3.1 35 i = 0 := by
    intro i hi
    rw [hτ3]
    show (if (35 : Nat) = 35 then (fun j => if j < 40 then (0 : Int32) else τ2.1 35 j) else τ2.1 35) i = 0
    rw [if_pos rfl]
    exact if_pos hi
  refine mGo_run (n := 400) ok rfl ?_
  refine mGo_ret ok rfl trivial ⟨rfl, rfl, ((((a1.wide (by omega) (by omega)).trans (b1.wide (by omega) (by omega))).trans (c1.wide (by omega) (by omega))).WI (by omega) (by omega)).WI (by omega) (by omega), ?_, ?_, fun i hi => ⟨?_, ?_, ?_⟩⟩
  · rw [WI_at, if_neg (by omega), WI_at, if_pos ⟨rfl, rfl⟩]
  · rw [WI_at, if_pos ⟨rfl, rfl⟩]
  · show τ3.2.1 33 i = 0
    rw [(c1 33 (by omega)).2.1, (b1 33 (by omega)).2.1]
    exact a2 i hi
  · show τ3.2.2 34 i = 0
    rw [(c1 34 (by omega)).2.2]
    exact b2 i hi
  · rw [WI_at, if_neg (by omega), WI_at, if_neg (by omega)]
    exact c2 i hi
theorem c_drop32 : mNR g l (d + 1) 52 [.ref 32] lk ex σ (.int (if σ.1 32 3 = -1 then 0 else 1)) (fun σ1 => σ1 = mWI (mWI σ 32 3 (-1)) 32 4 0) := by
  have ok : mOkP md_X5_drop := ok_at 52 (by decide) rfl
  refine mC_of (md := md_X5_drop) rfl (lt_at (by decide)) rfl ?_
  refine mGo_run (n := 400) ok rfl ?_
  refine mGo_callP ok rfl (by omega) (c_isEmpty32 (d := d)) ?_
  by_cases h : σ.1 32 3 = -1
  · rw [if_pos h, if_pos h]
    refine mGo_if ok rfl (fun h1 => ?_) (fun h1 => ?_)
    · exact absurd h1 (by decide)
    · refine mGo_run (n := 400) ok rfl ?_
      exact mGo_ret ok rfl (Or.inl rfl) (⟨rfl, rfl, rfl⟩)
  · rw [if_neg h, if_neg h]
    refine mGo_if ok rfl (fun h1 => ?_) (fun h1 => ?_)
    · refine mGo_run (n := 400) ok rfl ?_
      exact mGo_ret ok rfl (Or.inr rfl) (⟨rfl, rfl, rfl⟩)
    · exact absurd rfl h1
theorem c_read32 {n a t : Nat} (hn : n ≤ 40) (hl : σ.1 32 4 = nI n) (ha : a < n) (ht : t < 4) (hty : σ.1 32 3 = nI t) : mNP g l (d + 1) 54 [.ref 32, .int (nI a)] lk ex σ (.long (rdV t (σ.2.1 33 a) (σ.1 35 a) (σ.2.2 34 a))) := by
  have ok : mOkP md_X5_read := ok_at 54 (by decide) rfl
  refine mC_of (md := md_X5_read) rfl (lt_at (by decide)) rfl ?_
  unfold rdV
  refine mGo_run (n := 400) ok rfl ?_
  refine mGo_callP ok rfl (by omega) (c_covers32 (d := d) hl (nI a) 1) ?_
  rw [cov1 hn ha]
  refine mGo_if ok rfl (fun h => ?_) (fun h => ?_)
  · exact absurd h (by decide)
  · refine mGo_run (n := 400) ok rfl ?_
    refine mGo_callP ok rfl (by omega) (c_holdsReals32 (d := d)) ?_
    rw [hty]
    by_cases h2 : t < 2
    · have e : ¬ (nI t = 2 ∨ nI t = 3) := by
        rintro (z | z)
        · have := (nI_eq (a := t) (b := 2) (by omega) (by omega)).mp z; omega
        · have := (nI_eq (a := t) (b := 3) (by omega) (by omega)).mp z; omega
      rw [if_neg e, if_pos h2]
      refine mGo_if ok rfl (fun h1 => ?_) (fun h1 => ?_)
      · refine mGo_run (n := 400) ok rfl ?_
        refine mGo_side ok rfl (nI_in (by omega) (by omega)) ?_
        rw [nI_clamp (by omega)]
        refine mGo_run (n := 400) ok rfl ?_
        exact mGo_ret ok rfl trivial (⟨rfl, rfl, rfl⟩)
      · exact absurd rfl h1
    · have e : nI t = 2 ∨ nI t = 3 := by
        rcases (show t = 2 ∨ t = 3 by omega) with z | z
        · exact Or.inl (by rw [z]; rfl)
        · exact Or.inr (by rw [z]; rfl)
      rw [if_pos e, if_neg h2]
      refine mGo_if ok rfl (fun h1 => ?_) (fun h1 => ?_)
      · exact absurd h1 (by decide)
      · refine mGo_run (n := 400) ok rfl ?_
        refine mGo_side ok rfl (nI_in (by omega) (by omega)) ?_
        rw [nI_clamp (by omega)]
        refine mGo_run (n := 400) ok rfl ?_
        refine mGo_sw ok rfl ⟨fun z1 => ?_, fun z1 => ⟨fun z2 => ?_, fun z2 => ⟨fun z3 => ?_, fun z3 => ?_⟩⟩⟩
        · have z1 : σ.1 35 a = 1 := z1
          rw [if_pos z1]
          refine mGo_run (n := 400) ok rfl ?_
          exact mGo_ret ok rfl trivial (⟨rfl, rfl, rfl⟩)
        · have z1 : ¬ σ.1 35 a = 1 := z1
          have z2 : σ.1 35 a = 2 := z2
          rw [if_neg z1, if_pos z2]
          refine mGo_run (n := 400) ok rfl ?_
          exact mGo_ret ok rfl trivial (⟨rfl, rfl, rfl⟩)
        · have z1 : ¬ σ.1 35 a = 1 := z1
          have z2 : ¬ σ.1 35 a = 2 := z2
          have z3 : σ.1 35 a = 3 := z3
          rw [if_neg z1, if_neg z2, if_pos z3]
          refine mGo_run (n := 400) ok rfl ?_
          exact mGo_ret ok rfl trivial (⟨rfl, rfl, rfl⟩)
        · have z1 : ¬ σ.1 35 a = 1 := z1
          have z2 : ¬ σ.1 35 a = 2 := z2
          have z3 : ¬ σ.1 35 a = 3 := z3
          rw [if_neg z1, if_neg z2, if_neg z3]
          refine mGo_run (n := 400) ok rfl ?_
          refine mGo_side ok rfl (nI_in (by omega) (by omega)) ?_
          rw [nI_clamp (by omega)]
          refine mGo_run (n := 400) ok rfl ?_
          exact mGo_ret ok rfl trivial (⟨rfl, rfl, rfl⟩)
theorem c_slotAt32 : mNP g l d 112 [.ref 0, .int (nI 0)] lk ex σ (.ref 32) := by
  have ok : mOkP md_X8_slotAt := ok_at 112 (by decide) rfl
  refine mC_of (md := md_X8_slotAt) rfl (lt_at (by decide)) rfl ?_
  refine mGo_run (n := 400) ok rfl ?_
  refine mGo_if ok rfl (fun h => ?_) (fun h => ?_)
  · exact absurd h (by decide)
  · refine mGo_run (n := 400) ok rfl ?_
    refine mGo_if ok rfl (fun h1 => ?_) (fun h1 => ?_)
    · exact absurd h1 (by decide)
    · refine mGo_run (n := 400) ok rfl ?_
      refine mGo_side ok rfl (nI_in (by omega) (by omega)) ?_
      refine mGo_run (n := 400) ok rfl ?_
      exact mGo_ret ok rfl trivial (⟨rfl, rfl, rfl⟩)
theorem c_isEmpty36 : mNP g l d 48 [.ref 36] lk ex σ (.int (if σ.1 36 3 = -1 then 1 else 0)) := by
  have ok : mOkP md_X5_isEmpty := ok_at 48 (by decide) rfl
  refine mC_of (md := md_X5_isEmpty) rfl (lt_at (by decide)) rfl ?_
  refine mGo_run (n := 400) ok rfl ?_
  refine mGo_if ok rfl (fun h => ?_) (fun h => ?_)
  · refine mGo_run (n := 400) ok rfl ?_
    rw [if_pos h]
    exact mGo_ret ok rfl (Or.inr rfl) (⟨rfl, rfl, rfl⟩)
  · refine mGo_run (n := 400) ok rfl ?_
    rw [if_neg h]
    exact mGo_ret ok rfl (Or.inl rfl) (⟨rfl, rfl, rfl⟩)
theorem c_holdsReals36 : mNP g l d 49 [.ref 36] lk ex σ (.int (if σ.1 36 3 = 2 ∨ σ.1 36 3 = 3 then 1 else 0)) := by
  have ok : mOkP md_X5_holdsReals := ok_at 49 (by decide) rfl
  refine mC_of (md := md_X5_holdsReals) rfl (lt_at (by decide)) rfl ?_
  refine mGo_run (n := 400) ok rfl ?_
  refine mGo_if ok rfl (fun h => ?_) (fun h => ?_)
  · refine mGo_run (n := 400) ok rfl ?_
    rw [if_pos (Or.inl h)]
    exact mGo_ret ok rfl (Or.inr rfl) (⟨rfl, rfl, rfl⟩)
  · refine mGo_run (n := 400) ok rfl ?_
    refine mGo_if ok rfl (fun h1 => ?_) (fun h1 => ?_)
    · refine mGo_run (n := 400) ok rfl ?_
      rw [if_pos (Or.inr h1)]
      exact mGo_ret ok rfl (Or.inr rfl) (⟨rfl, rfl, rfl⟩)
    · refine mGo_run (n := 400) ok rfl ?_
      rw [if_neg (fun z => z.elim h h1)]
      exact mGo_ret ok rfl (Or.inl rfl) (⟨rfl, rfl, rfl⟩)
theorem c_covers36 {n : Nat} (hl : σ.1 36 4 = nI n) (i c : Int32) : mNP g l d 50 [.ref 36, .int i, .int c] lk ex σ (.int (bI (covB n i c))) := by
  have ok : mOkP md_X5_covers := ok_at 50 (by decide) rfl
  refine mC_of (md := md_X5_covers) rfl (lt_at (by decide)) rfl ?_
  have no : ¬ qCov n i c → mGo g l d md_X5_covers (SH lk ex).length (mTot (SH lk ex)) (30, [some (.ref 36), some (.int i), some (.int c)], [], SH lk ex, σ) (fun r sp σ1 => r = some (.int (bI (covB n i c))) ∧ sp = SH lk ex ∧ σ1 = σ) := by
    intro hq
    have e : covB n i c = false := by
      cases hh : covB n i c with
      | false => rfl
      | true => exact absurd (covB_iff.mp hh) hq
    rw [e]
    refine mGo_run (n := 400) ok rfl ?_
    exact mGo_ret ok rfl (Or.inl rfl) (⟨rfl, rfl, rfl⟩)
  refine mGo_run (n := 400) ok rfl ?_
  refine mGo_if ok rfl (fun h => ?_) (fun h => ?_)
  · exact no (fun z => absurd h (Int32.not_lt.mpr z.1))
  · refine mGo_run (n := 400) ok rfl ?_
    refine mGo_if ok rfl (fun h1 => ?_) (fun h1 => ?_)
    · exact no (fun z => absurd h1 (Int32.not_lt.mpr z.2.1))
    · refine mGo_run (n := 400) ok rfl ?_
      rw [hl]
      refine mGo_if ok rfl (fun h2 => ?_) (fun h2 => ?_)
      · exact no (fun z => absurd h2 (Int32.not_lt.mpr z.2.2.1))
      · refine mGo_run (n := 400) ok rfl ?_
        rw [hl]
        refine mGo_if ok rfl (fun h3 => ?_) (fun h3 => ?_)
        · exact no (fun z => absurd h3 (Int32.not_lt.mpr z.2.2.2))
        · rw [covB_iff.mpr ⟨Int32.not_lt.mp h, Int32.not_lt.mp h1, Int32.not_lt.mp h2, Int32.not_lt.mp h3⟩]
          refine mGo_run (n := 400) ok rfl ?_
          exact mGo_ret ok rfl (Or.inr rfl) (⟨rfl, rfl, rfl⟩)
theorem c_fillL36 (v : Int64) : mNV g l d 197 [.ref 37, .long v] lk ex σ (fun σ1 => fr 37 38 σ σ1 ∧ ∀ i, i < 40 → σ1.2.1 37 i = v) := by
  have ok : mOkP md_J7_fillL := ok_at 197 (by decide) rfl
  refine mC_of (md := md_J7_fillL) rfl (lt_at (by decide)) rfl ?_
  refine mGo_runS 6 (n := 400) ok rfl ?_
  have loop : ∀ m i, i + m = 40 → ∀ τ : mHp, fr 37 38 σ τ → (∀ j, j < i → τ.2.1 37 j = v) → mGo g l d md_J7_fillL (SH lk ex).length (mTot (SH lk ex)) (6, [some (.ref 37), some (.long v), none, some (.int (nI i)), some (.int (nI 40))], [], SH lk ex, τ) (fun r sp σ1 => r = none ∧ sp = SH lk ex ∧ (fr 37 38 σ σ1 ∧ ∀ i, i < 40 → σ1.2.1 37 i = v)) := by
    intro m
    induction m with
    | zero =>
      intro i hi τ t1 t2
      refine mGo_run (n := 400) ok rfl ?_
      refine mGo_ifI ok rfl (nI_leI (a := 40) (b := i) (by omega) (by omega)) (fun h => ?_) (fun h => ?_)
      · refine mGo_run (n := 400) ok rfl ?_
        exact mGo_ret ok rfl trivial (⟨rfl, rfl, t1, fun j hj => t2 j (by omega)⟩)
      · omega
    | succ m ih =>
      intro i hi τ t1 t2
      refine mGo_run (n := 400) ok rfl ?_
      refine mGo_ifI ok rfl (nI_leI (a := 40) (b := i) (by omega) (by omega)) (fun h => ?_) (fun h => ?_)
      · omega
      · refine mGo_run (n := 400) ok rfl ?_
        refine mGo_side ok rfl (nI_in (by omega) (by omega)) ?_
        rw [nI_clamp (by omega)]
        refine mGo_runS 6 (n := 400) ok rfl ?_
        rw [nI_1]
        refine ih (i + 1) (by omega) _ (t1.WL (by omega) (by omega)) (fun j hj => ?_)
        rw [WL_at]
        by_cases z : j = i
        · rw [if_pos ⟨rfl, z⟩]
        · rw [if_neg (fun y => z y.2)]; exact t2 j (by omega)
  exact loop 40 0 (by omega) σ fr.refl (fun j hj => by omega)
theorem c_fillD36 (v : UInt64) : mNV g l d 195 [.ref 38, .double v] lk ex σ (fun σ1 => fr 38 39 σ σ1 ∧ ∀ i, i < 40 → σ1.2.2 38 i = v) := by
  have ok : mOkP md_J7_fillD := ok_at 195 (by decide) rfl
  refine mC_of (md := md_J7_fillD) rfl (lt_at (by decide)) rfl ?_
  refine mGo_runS 6 (n := 400) ok rfl ?_
  have loop : ∀ m i, i + m = 40 → ∀ τ : mHp, fr 38 39 σ τ → (∀ j, j < i → τ.2.2 38 j = v) → mGo g l d md_J7_fillD (SH lk ex).length (mTot (SH lk ex)) (6, [some (.ref 38), some (.double v), none, some (.int (nI i)), some (.int (nI 40))], [], SH lk ex, τ) (fun r sp σ1 => r = none ∧ sp = SH lk ex ∧ (fr 38 39 σ σ1 ∧ ∀ i, i < 40 → σ1.2.2 38 i = v)) := by
    intro m
    induction m with
    | zero =>
      intro i hi τ t1 t2
      refine mGo_run (n := 400) ok rfl ?_
      refine mGo_ifI ok rfl (nI_leI (a := 40) (b := i) (by omega) (by omega)) (fun h => ?_) (fun h => ?_)
      · refine mGo_run (n := 400) ok rfl ?_
        exact mGo_ret ok rfl trivial (⟨rfl, rfl, t1, fun j hj => t2 j (by omega)⟩)
      · omega
    | succ m ih =>
      intro i hi τ t1 t2
      refine mGo_run (n := 400) ok rfl ?_
      refine mGo_ifI ok rfl (nI_leI (a := 40) (b := i) (by omega) (by omega)) (fun h => ?_) (fun h => ?_)
      · omega
      · refine mGo_run (n := 400) ok rfl ?_
        refine mGo_side ok rfl (nI_in (by omega) (by omega)) ?_
        rw [nI_clamp (by omega)]
        refine mGo_runS 6 (n := 400) ok rfl ?_
        rw [nI_1]
        refine ih (i + 1) (by omega) _ (t1.WD (by omega) (by omega)) (fun j hj => ?_)
        rw [WD_at]
        by_cases z : j = i
        · rw [if_pos ⟨rfl, z⟩]
        · rw [if_neg (fun y => z y.2)]; exact t2 j (by omega)
  exact loop 40 0 (by omega) σ fr.refl (fun j hj => by omega)
theorem c_fillAnew36 (t z : Int32) : mNV g l (d + 1) 51 [.ref 36, .int t, .int z] lk ex σ (fun σ1 => fr 36 40 σ σ1 ∧ σ1.1 36 3 = t ∧ σ1.1 36 4 = z ∧ ∀ i, i < 40 → σ1.2.1 37 i = 0 ∧ σ1.2.2 38 i = 0 ∧ σ1.1 39 i = 0) := by
  have ok : mOkP md_X5_fillAnew := ok_at 51 (by decide) rfl
  refine mC_of (md := md_X5_fillAnew) rfl (lt_at (by decide)) rfl ?_
  refine mGo_run (n := 400) ok rfl ?_
  refine mGo_callV ok rfl (by omega) (c_fillL36 (d := d) 0) (fun τ1 hτ1 => ?_)
  obtain ⟨a1, a2⟩ := hτ1
  refine mGo_run (n := 400) ok rfl ?_
  refine mGo_callV ok rfl (by omega) (c_fillD36 (d := d) 0) (fun τ2 hτ2 => ?_)
  obtain ⟨b1, b2⟩ := hτ2
  refine mGo_run (n := 400) ok rfl ?_
  refine mGo_callV ok rfl (by omega) (c_fillI (d := d) (q := 39) (n := 40) rfl (by omega) (by omega) 0) (fun τ3 hτ3 => ?_)
  have c1 : fr 39 40 τ2 τ3 := by
    intro i hi
    rw [hτ3]
    exact ⟨if_neg (by omega), rfl, rfl⟩
  have c2 : ∀ i, i < 40 → τ3.1 39 i = 0 := by
    intro i hi
    rw [hτ3]
    show (if (39 : Nat) = 39 then (fun j => if j < 40 then (0 : Int32) else τ2.1 39 j) else τ2.1 39) i = 0
    rw [if_pos rfl]
    exact if_pos hi
  refine mGo_run (n := 400) ok rfl ?_
  refine mGo_ret ok rfl trivial ⟨rfl, rfl, ((((a1.wide (by omega) (by omega)).trans (b1.wide (by omega) (by omega))).trans (c1.wide (by omega) (by omega))).WI (by omega) (by omega)).WI (by omega) (by omega), ?_, ?_, fun i hi => ⟨?_, ?_, ?_⟩⟩
  · rw [WI_at, if_neg (by omega), WI_at, if_pos ⟨rfl, rfl⟩]
  · rw [WI_at, if_pos ⟨rfl, rfl⟩]
  · show τ3.2.1 37 i = 0
    rw [(c1 37 (by omega)).2.1, (b1 37 (by omega)).2.1]
    exact a2 i hi
  · show τ3.2.2 38 i = 0
    rw [(c1 38 (by omega)).2.2]
    exact b2 i hi
  · rw [WI_at, if_neg (by omega), WI_at, if_neg (by omega)]
    exact c2 i hi
theorem c_drop36 : mNR g l (d + 1) 52 [.ref 36] lk ex σ (.int (if σ.1 36 3 = -1 then 0 else 1)) (fun σ1 => σ1 = mWI (mWI σ 36 3 (-1)) 36 4 0) := by
  have ok : mOkP md_X5_drop := ok_at 52 (by decide) rfl
  refine mC_of (md := md_X5_drop) rfl (lt_at (by decide)) rfl ?_
  refine mGo_run (n := 400) ok rfl ?_
  refine mGo_callP ok rfl (by omega) (c_isEmpty36 (d := d)) ?_
  by_cases h : σ.1 36 3 = -1
  · rw [if_pos h, if_pos h]
    refine mGo_if ok rfl (fun h1 => ?_) (fun h1 => ?_)
    · exact absurd h1 (by decide)
    · refine mGo_run (n := 400) ok rfl ?_
      exact mGo_ret ok rfl (Or.inl rfl) (⟨rfl, rfl, rfl⟩)
  · rw [if_neg h, if_neg h]
    refine mGo_if ok rfl (fun h1 => ?_) (fun h1 => ?_)
    · refine mGo_run (n := 400) ok rfl ?_
      exact mGo_ret ok rfl (Or.inr rfl) (⟨rfl, rfl, rfl⟩)
    · exact absurd rfl h1
theorem c_read36 {n a t : Nat} (hn : n ≤ 40) (hl : σ.1 36 4 = nI n) (ha : a < n) (ht : t < 4) (hty : σ.1 36 3 = nI t) : mNP g l (d + 1) 54 [.ref 36, .int (nI a)] lk ex σ (.long (rdV t (σ.2.1 37 a) (σ.1 39 a) (σ.2.2 38 a))) := by
  have ok : mOkP md_X5_read := ok_at 54 (by decide) rfl
  refine mC_of (md := md_X5_read) rfl (lt_at (by decide)) rfl ?_
  unfold rdV
  refine mGo_run (n := 400) ok rfl ?_
  refine mGo_callP ok rfl (by omega) (c_covers36 (d := d) hl (nI a) 1) ?_
  rw [cov1 hn ha]
  refine mGo_if ok rfl (fun h => ?_) (fun h => ?_)
  · exact absurd h (by decide)
  · refine mGo_run (n := 400) ok rfl ?_
    refine mGo_callP ok rfl (by omega) (c_holdsReals36 (d := d)) ?_
    rw [hty]
    by_cases h2 : t < 2
    · have e : ¬ (nI t = 2 ∨ nI t = 3) := by
        rintro (z | z)
        · have := (nI_eq (a := t) (b := 2) (by omega) (by omega)).mp z; omega
        · have := (nI_eq (a := t) (b := 3) (by omega) (by omega)).mp z; omega
      rw [if_neg e, if_pos h2]
      refine mGo_if ok rfl (fun h1 => ?_) (fun h1 => ?_)
      · refine mGo_run (n := 400) ok rfl ?_
        refine mGo_side ok rfl (nI_in (by omega) (by omega)) ?_
        rw [nI_clamp (by omega)]
        refine mGo_run (n := 400) ok rfl ?_
        exact mGo_ret ok rfl trivial (⟨rfl, rfl, rfl⟩)
      · exact absurd rfl h1
    · have e : nI t = 2 ∨ nI t = 3 := by
        rcases (show t = 2 ∨ t = 3 by omega) with z | z
        · exact Or.inl (by rw [z]; rfl)
        · exact Or.inr (by rw [z]; rfl)
      rw [if_pos e, if_neg h2]
      refine mGo_if ok rfl (fun h1 => ?_) (fun h1 => ?_)
      · exact absurd h1 (by decide)
      · refine mGo_run (n := 400) ok rfl ?_
        refine mGo_side ok rfl (nI_in (by omega) (by omega)) ?_
        rw [nI_clamp (by omega)]
        refine mGo_run (n := 400) ok rfl ?_
        refine mGo_sw ok rfl ⟨fun z1 => ?_, fun z1 => ⟨fun z2 => ?_, fun z2 => ⟨fun z3 => ?_, fun z3 => ?_⟩⟩⟩
        · have z1 : σ.1 39 a = 1 := z1
          rw [if_pos z1]
          refine mGo_run (n := 400) ok rfl ?_
          exact mGo_ret ok rfl trivial (⟨rfl, rfl, rfl⟩)
        · have z1 : ¬ σ.1 39 a = 1 := z1
          have z2 : σ.1 39 a = 2 := z2
          rw [if_neg z1, if_pos z2]
          refine mGo_run (n := 400) ok rfl ?_
          exact mGo_ret ok rfl trivial (⟨rfl, rfl, rfl⟩)
        · have z1 : ¬ σ.1 39 a = 1 := z1
          have z2 : ¬ σ.1 39 a = 2 := z2
          have z3 : σ.1 39 a = 3 := z3
          rw [if_neg z1, if_neg z2, if_pos z3]
          refine mGo_run (n := 400) ok rfl ?_
          exact mGo_ret ok rfl trivial (⟨rfl, rfl, rfl⟩)
        · have z1 : ¬ σ.1 39 a = 1 := z1
          have z2 : ¬ σ.1 39 a = 2 := z2
          have z3 : ¬ σ.1 39 a = 3 := z3
          rw [if_neg z1, if_neg z2, if_neg z3]
          refine mGo_run (n := 400) ok rfl ?_
          refine mGo_side ok rfl (nI_in (by omega) (by omega)) ?_
          rw [nI_clamp (by omega)]
          refine mGo_run (n := 400) ok rfl ?_
          exact mGo_ret ok rfl trivial (⟨rfl, rfl, rfl⟩)
theorem c_slotAt36 : mNP g l d 112 [.ref 0, .int (nI 1)] lk ex σ (.ref 36) := by
  have ok : mOkP md_X8_slotAt := ok_at 112 (by decide) rfl
  refine mC_of (md := md_X8_slotAt) rfl (lt_at (by decide)) rfl ?_
  refine mGo_run (n := 400) ok rfl ?_
  refine mGo_if ok rfl (fun h => ?_) (fun h => ?_)
  · exact absurd h (by decide)
  · refine mGo_run (n := 400) ok rfl ?_
    refine mGo_if ok rfl (fun h1 => ?_) (fun h1 => ?_)
    · exact absurd h1 (by decide)
    · refine mGo_run (n := 400) ok rfl ?_
      refine mGo_side ok rfl (nI_in (by omega) (by omega)) ?_
      refine mGo_run (n := 400) ok rfl ?_
      exact mGo_ret ok rfl trivial (⟨rfl, rfl, rfl⟩)
theorem c_isEmpty40 : mNP g l d 48 [.ref 40] lk ex σ (.int (if σ.1 40 3 = -1 then 1 else 0)) := by
  have ok : mOkP md_X5_isEmpty := ok_at 48 (by decide) rfl
  refine mC_of (md := md_X5_isEmpty) rfl (lt_at (by decide)) rfl ?_
  refine mGo_run (n := 400) ok rfl ?_
  refine mGo_if ok rfl (fun h => ?_) (fun h => ?_)
  · refine mGo_run (n := 400) ok rfl ?_
    rw [if_pos h]
    exact mGo_ret ok rfl (Or.inr rfl) (⟨rfl, rfl, rfl⟩)
  · refine mGo_run (n := 400) ok rfl ?_
    rw [if_neg h]
    exact mGo_ret ok rfl (Or.inl rfl) (⟨rfl, rfl, rfl⟩)
theorem c_holdsReals40 : mNP g l d 49 [.ref 40] lk ex σ (.int (if σ.1 40 3 = 2 ∨ σ.1 40 3 = 3 then 1 else 0)) := by
  have ok : mOkP md_X5_holdsReals := ok_at 49 (by decide) rfl
  refine mC_of (md := md_X5_holdsReals) rfl (lt_at (by decide)) rfl ?_
  refine mGo_run (n := 400) ok rfl ?_
  refine mGo_if ok rfl (fun h => ?_) (fun h => ?_)
  · refine mGo_run (n := 400) ok rfl ?_
    rw [if_pos (Or.inl h)]
    exact mGo_ret ok rfl (Or.inr rfl) (⟨rfl, rfl, rfl⟩)
  · refine mGo_run (n := 400) ok rfl ?_
    refine mGo_if ok rfl (fun h1 => ?_) (fun h1 => ?_)
    · refine mGo_run (n := 400) ok rfl ?_
      rw [if_pos (Or.inr h1)]
      exact mGo_ret ok rfl (Or.inr rfl) (⟨rfl, rfl, rfl⟩)
    · refine mGo_run (n := 400) ok rfl ?_
      rw [if_neg (fun z => z.elim h h1)]
      exact mGo_ret ok rfl (Or.inl rfl) (⟨rfl, rfl, rfl⟩)
theorem c_covers40 {n : Nat} (hl : σ.1 40 4 = nI n) (i c : Int32) : mNP g l d 50 [.ref 40, .int i, .int c] lk ex σ (.int (bI (covB n i c))) := by
  have ok : mOkP md_X5_covers := ok_at 50 (by decide) rfl
  refine mC_of (md := md_X5_covers) rfl (lt_at (by decide)) rfl ?_
  have no : ¬ qCov n i c → mGo g l d md_X5_covers (SH lk ex).length (mTot (SH lk ex)) (30, [some (.ref 40), some (.int i), some (.int c)], [], SH lk ex, σ) (fun r sp σ1 => r = some (.int (bI (covB n i c))) ∧ sp = SH lk ex ∧ σ1 = σ) := by
    intro hq
    have e : covB n i c = false := by
      cases hh : covB n i c with
      | false => rfl
      | true => exact absurd (covB_iff.mp hh) hq
    rw [e]
    refine mGo_run (n := 400) ok rfl ?_
    exact mGo_ret ok rfl (Or.inl rfl) (⟨rfl, rfl, rfl⟩)
  refine mGo_run (n := 400) ok rfl ?_
  refine mGo_if ok rfl (fun h => ?_) (fun h => ?_)
  · exact no (fun z => absurd h (Int32.not_lt.mpr z.1))
  · refine mGo_run (n := 400) ok rfl ?_
    refine mGo_if ok rfl (fun h1 => ?_) (fun h1 => ?_)
    · exact no (fun z => absurd h1 (Int32.not_lt.mpr z.2.1))
    · refine mGo_run (n := 400) ok rfl ?_
      rw [hl]
      refine mGo_if ok rfl (fun h2 => ?_) (fun h2 => ?_)
      · exact no (fun z => absurd h2 (Int32.not_lt.mpr z.2.2.1))
      · refine mGo_run (n := 400) ok rfl ?_
        rw [hl]
        refine mGo_if ok rfl (fun h3 => ?_) (fun h3 => ?_)
        · exact no (fun z => absurd h3 (Int32.not_lt.mpr z.2.2.2))
        · rw [covB_iff.mpr ⟨Int32.not_lt.mp h, Int32.not_lt.mp h1, Int32.not_lt.mp h2, Int32.not_lt.mp h3⟩]
          refine mGo_run (n := 400) ok rfl ?_
          exact mGo_ret ok rfl (Or.inr rfl) (⟨rfl, rfl, rfl⟩)
theorem c_fillL40 (v : Int64) : mNV g l d 197 [.ref 41, .long v] lk ex σ (fun σ1 => fr 41 42 σ σ1 ∧ ∀ i, i < 40 → σ1.2.1 41 i = v) := by
  have ok : mOkP md_J7_fillL := ok_at 197 (by decide) rfl
  refine mC_of (md := md_J7_fillL) rfl (lt_at (by decide)) rfl ?_
  refine mGo_runS 6 (n := 400) ok rfl ?_
  have loop : ∀ m i, i + m = 40 → ∀ τ : mHp, fr 41 42 σ τ → (∀ j, j < i → τ.2.1 41 j = v) → mGo g l d md_J7_fillL (SH lk ex).length (mTot (SH lk ex)) (6, [some (.ref 41), some (.long v), none, some (.int (nI i)), some (.int (nI 40))], [], SH lk ex, τ) (fun r sp σ1 => r = none ∧ sp = SH lk ex ∧ (fr 41 42 σ σ1 ∧ ∀ i, i < 40 → σ1.2.1 41 i = v)) := by
    intro m
    induction m with
    | zero =>
      intro i hi τ t1 t2
      refine mGo_run (n := 400) ok rfl ?_
      refine mGo_ifI ok rfl (nI_leI (a := 40) (b := i) (by omega) (by omega)) (fun h => ?_) (fun h => ?_)
      · refine mGo_run (n := 400) ok rfl ?_
        exact mGo_ret ok rfl trivial (⟨rfl, rfl, t1, fun j hj => t2 j (by omega)⟩)
      · omega
    | succ m ih =>
      intro i hi τ t1 t2
      refine mGo_run (n := 400) ok rfl ?_
      refine mGo_ifI ok rfl (nI_leI (a := 40) (b := i) (by omega) (by omega)) (fun h => ?_) (fun h => ?_)
      · omega
      · refine mGo_run (n := 400) ok rfl ?_
        refine mGo_side ok rfl (nI_in (by omega) (by omega)) ?_
        rw [nI_clamp (by omega)]
        refine mGo_runS 6 (n := 400) ok rfl ?_
        rw [nI_1]
        refine ih (i + 1) (by omega) _ (t1.WL (by omega) (by omega)) (fun j hj => ?_)
        rw [WL_at]
        by_cases z : j = i
        · rw [if_pos ⟨rfl, z⟩]
        · rw [if_neg (fun y => z y.2)]; exact t2 j (by omega)
  exact loop 40 0 (by omega) σ fr.refl (fun j hj => by omega)
theorem c_fillD40 (v : UInt64) : mNV g l d 195 [.ref 42, .double v] lk ex σ (fun σ1 => fr 42 43 σ σ1 ∧ ∀ i, i < 40 → σ1.2.2 42 i = v) := by
  have ok : mOkP md_J7_fillD := ok_at 195 (by decide) rfl
  refine mC_of (md := md_J7_fillD) rfl (lt_at (by decide)) rfl ?_
  refine mGo_runS 6 (n := 400) ok rfl ?_
  have loop : ∀ m i, i + m = 40 → ∀ τ : mHp, fr 42 43 σ τ → (∀ j, j < i → τ.2.2 42 j = v) → mGo g l d md_J7_fillD (SH lk ex).length (mTot (SH lk ex)) (6, [some (.ref 42), some (.double v), none, some (.int (nI i)), some (.int (nI 40))], [], SH lk ex, τ) (fun r sp σ1 => r = none ∧ sp = SH lk ex ∧ (fr 42 43 σ σ1 ∧ ∀ i, i < 40 → σ1.2.2 42 i = v)) := by
    intro m
    induction m with
    | zero =>
      intro i hi τ t1 t2
      refine mGo_run (n := 400) ok rfl ?_
      refine mGo_ifI ok rfl (nI_leI (a := 40) (b := i) (by omega) (by omega)) (fun h => ?_) (fun h => ?_)
      · refine mGo_run (n := 400) ok rfl ?_
        exact mGo_ret ok rfl trivial (⟨rfl, rfl, t1, fun j hj => t2 j (by omega)⟩)
      · omega
    | succ m ih =>
      intro i hi τ t1 t2
      refine mGo_run (n := 400) ok rfl ?_
      refine mGo_ifI ok rfl (nI_leI (a := 40) (b := i) (by omega) (by omega)) (fun h => ?_) (fun h => ?_)
      · omega
      · refine mGo_run (n := 400) ok rfl ?_
        refine mGo_side ok rfl (nI_in (by omega) (by omega)) ?_
        rw [nI_clamp (by omega)]
        refine mGo_runS 6 (n := 400) ok rfl ?_
        rw [nI_1]
        refine ih (i + 1) (by omega) _ (t1.WD (by omega) (by omega)) (fun j hj => ?_)
        rw [WD_at]
        by_cases z : j = i
        · rw [if_pos ⟨rfl, z⟩]
        · rw [if_neg (fun y => z y.2)]; exact t2 j (by omega)
  exact loop 40 0 (by omega) σ fr.refl (fun j hj => by omega)
theorem c_fillAnew40 (t z : Int32) : mNV g l (d + 1) 51 [.ref 40, .int t, .int z] lk ex σ (fun σ1 => fr 40 44 σ σ1 ∧ σ1.1 40 3 = t ∧ σ1.1 40 4 = z ∧ ∀ i, i < 40 → σ1.2.1 41 i = 0 ∧ σ1.2.2 42 i = 0 ∧ σ1.1 43 i = 0) := by
  have ok : mOkP md_X5_fillAnew := ok_at 51 (by decide) rfl
  refine mC_of (md := md_X5_fillAnew) rfl (lt_at (by decide)) rfl ?_
  refine mGo_run (n := 400) ok rfl ?_
  refine mGo_callV ok rfl (by omega) (c_fillL40 (d := d) 0) (fun τ1 hτ1 => ?_)
  obtain ⟨a1, a2⟩ := hτ1
  refine mGo_run (n := 400) ok rfl ?_
  refine mGo_callV ok rfl (by omega) (c_fillD40 (d := d) 0) (fun τ2 hτ2 => ?_)
  obtain ⟨b1, b2⟩ := hτ2
  refine mGo_run (n := 400) ok rfl ?_
  refine mGo_callV ok rfl (by omega) (c_fillI (d := d) (q := 43) (n := 40) rfl (by omega) (by omega) 0) (fun τ3 hτ3 => ?_)
  have c1 : fr 43 44 τ2 τ3 := by
    intro i hi
    rw [hτ3]
    exact ⟨if_neg (by omega), rfl, rfl⟩
  have c2 : ∀ i, i < 40 → τ3.1 43 i = 0 := by
    intro i hi
    rw [hτ3]
    show (if (43 : Nat) = 43 then (fun j => if j < 40 then (0 : Int32) else τ2.1 43 j) else τ2.1 43) i = 0
    rw [if_pos rfl]
    exact if_pos hi
  refine mGo_run (n := 400) ok rfl ?_
  refine mGo_ret ok rfl trivial ⟨rfl, rfl, ((((a1.wide (by omega) (by omega)).trans (b1.wide (by omega) (by omega))).trans (c1.wide (by omega) (by omega))).WI (by omega) (by omega)).WI (by omega) (by omega), ?_, ?_, fun i hi => ⟨?_, ?_, ?_⟩⟩
  · rw [WI_at, if_neg (by omega), WI_at, if_pos ⟨rfl, rfl⟩]
  · rw [WI_at, if_pos ⟨rfl, rfl⟩]
  · show τ3.2.1 41 i = 0
    rw [(c1 41 (by omega)).2.1, (b1 41 (by omega)).2.1]
    exact a2 i hi
  · show τ3.2.2 42 i = 0
    rw [(c1 42 (by omega)).2.2]
    exact b2 i hi
  · rw [WI_at, if_neg (by omega), WI_at, if_neg (by omega)]
    exact c2 i hi
theorem c_drop40 : mNR g l (d + 1) 52 [.ref 40] lk ex σ (.int (if σ.1 40 3 = -1 then 0 else 1)) (fun σ1 => σ1 = mWI (mWI σ 40 3 (-1)) 40 4 0) := by
  have ok : mOkP md_X5_drop := ok_at 52 (by decide) rfl
  refine mC_of (md := md_X5_drop) rfl (lt_at (by decide)) rfl ?_
  refine mGo_run (n := 400) ok rfl ?_
  refine mGo_callP ok rfl (by omega) (c_isEmpty40 (d := d)) ?_
  by_cases h : σ.1 40 3 = -1
  · rw [if_pos h, if_pos h]
    refine mGo_if ok rfl (fun h1 => ?_) (fun h1 => ?_)
    · exact absurd h1 (by decide)
    · refine mGo_run (n := 400) ok rfl ?_
      exact mGo_ret ok rfl (Or.inl rfl) (⟨rfl, rfl, rfl⟩)
  · rw [if_neg h, if_neg h]
    refine mGo_if ok rfl (fun h1 => ?_) (fun h1 => ?_)
    · refine mGo_run (n := 400) ok rfl ?_
      exact mGo_ret ok rfl (Or.inr rfl) (⟨rfl, rfl, rfl⟩)
    · exact absurd rfl h1
theorem c_read40 {n a t : Nat} (hn : n ≤ 40) (hl : σ.1 40 4 = nI n) (ha : a < n) (ht : t < 4) (hty : σ.1 40 3 = nI t) : mNP g l (d + 1) 54 [.ref 40, .int (nI a)] lk ex σ (.long (rdV t (σ.2.1 41 a) (σ.1 43 a) (σ.2.2 42 a))) := by
  have ok : mOkP md_X5_read := ok_at 54 (by decide) rfl
  refine mC_of (md := md_X5_read) rfl (lt_at (by decide)) rfl ?_
  unfold rdV
  refine mGo_run (n := 400) ok rfl ?_
  refine mGo_callP ok rfl (by omega) (c_covers40 (d := d) hl (nI a) 1) ?_
  rw [cov1 hn ha]
  refine mGo_if ok rfl (fun h => ?_) (fun h => ?_)
  · exact absurd h (by decide)
  · refine mGo_run (n := 400) ok rfl ?_
    refine mGo_callP ok rfl (by omega) (c_holdsReals40 (d := d)) ?_
    rw [hty]
    by_cases h2 : t < 2
    · have e : ¬ (nI t = 2 ∨ nI t = 3) := by
        rintro (z | z)
        · have := (nI_eq (a := t) (b := 2) (by omega) (by omega)).mp z; omega
        · have := (nI_eq (a := t) (b := 3) (by omega) (by omega)).mp z; omega
      rw [if_neg e, if_pos h2]
      refine mGo_if ok rfl (fun h1 => ?_) (fun h1 => ?_)
      · refine mGo_run (n := 400) ok rfl ?_
        refine mGo_side ok rfl (nI_in (by omega) (by omega)) ?_
        rw [nI_clamp (by omega)]
        refine mGo_run (n := 400) ok rfl ?_
        exact mGo_ret ok rfl trivial (⟨rfl, rfl, rfl⟩)
      · exact absurd rfl h1
    · have e : nI t = 2 ∨ nI t = 3 := by
        rcases (show t = 2 ∨ t = 3 by omega) with z | z
        · exact Or.inl (by rw [z]; rfl)
        · exact Or.inr (by rw [z]; rfl)
      rw [if_pos e, if_neg h2]
      refine mGo_if ok rfl (fun h1 => ?_) (fun h1 => ?_)
      · exact absurd h1 (by decide)
      · refine mGo_run (n := 400) ok rfl ?_
        refine mGo_side ok rfl (nI_in (by omega) (by omega)) ?_
        rw [nI_clamp (by omega)]
        refine mGo_run (n := 400) ok rfl ?_
        refine mGo_sw ok rfl ⟨fun z1 => ?_, fun z1 => ⟨fun z2 => ?_, fun z2 => ⟨fun z3 => ?_, fun z3 => ?_⟩⟩⟩
        · have z1 : σ.1 43 a = 1 := z1
          rw [if_pos z1]
          refine mGo_run (n := 400) ok rfl ?_
          exact mGo_ret ok rfl trivial (⟨rfl, rfl, rfl⟩)
        · have z1 : ¬ σ.1 43 a = 1 := z1
          have z2 : σ.1 43 a = 2 := z2
          rw [if_neg z1, if_pos z2]
          refine mGo_run (n := 400) ok rfl ?_
          exact mGo_ret ok rfl trivial (⟨rfl, rfl, rfl⟩)
        · have z1 : ¬ σ.1 43 a = 1 := z1
          have z2 : ¬ σ.1 43 a = 2 := z2
          have z3 : σ.1 43 a = 3 := z3
          rw [if_neg z1, if_neg z2, if_pos z3]
          refine mGo_run (n := 400) ok rfl ?_
          exact mGo_ret ok rfl trivial (⟨rfl, rfl, rfl⟩)
        · have z1 : ¬ σ.1 43 a = 1 := z1
          have z2 : ¬ σ.1 43 a = 2 := z2
          have z3 : ¬ σ.1 43 a = 3 := z3
          rw [if_neg z1, if_neg z2, if_neg z3]
          refine mGo_run (n := 400) ok rfl ?_
          refine mGo_side ok rfl (nI_in (by omega) (by omega)) ?_
          rw [nI_clamp (by omega)]
          refine mGo_run (n := 400) ok rfl ?_
          exact mGo_ret ok rfl trivial (⟨rfl, rfl, rfl⟩)
theorem c_slotAt40 : mNP g l d 112 [.ref 0, .int (nI 2)] lk ex σ (.ref 40) := by
  have ok : mOkP md_X8_slotAt := ok_at 112 (by decide) rfl
  refine mC_of (md := md_X8_slotAt) rfl (lt_at (by decide)) rfl ?_
  refine mGo_run (n := 400) ok rfl ?_
  refine mGo_if ok rfl (fun h => ?_) (fun h => ?_)
  · exact absurd h (by decide)
  · refine mGo_run (n := 400) ok rfl ?_
    refine mGo_if ok rfl (fun h1 => ?_) (fun h1 => ?_)
    · exact absurd h1 (by decide)
    · refine mGo_run (n := 400) ok rfl ?_
      refine mGo_side ok rfl (nI_in (by omega) (by omega)) ?_
      refine mGo_run (n := 400) ok rfl ?_
      exact mGo_ret ok rfl trivial (⟨rfl, rfl, rfl⟩)
theorem c_isEmpty44 : mNP g l d 48 [.ref 44] lk ex σ (.int (if σ.1 44 3 = -1 then 1 else 0)) := by
  have ok : mOkP md_X5_isEmpty := ok_at 48 (by decide) rfl
  refine mC_of (md := md_X5_isEmpty) rfl (lt_at (by decide)) rfl ?_
  refine mGo_run (n := 400) ok rfl ?_
  refine mGo_if ok rfl (fun h => ?_) (fun h => ?_)
  · refine mGo_run (n := 400) ok rfl ?_
    rw [if_pos h]
    exact mGo_ret ok rfl (Or.inr rfl) (⟨rfl, rfl, rfl⟩)
  · refine mGo_run (n := 400) ok rfl ?_
    rw [if_neg h]
    exact mGo_ret ok rfl (Or.inl rfl) (⟨rfl, rfl, rfl⟩)
theorem c_holdsReals44 : mNP g l d 49 [.ref 44] lk ex σ (.int (if σ.1 44 3 = 2 ∨ σ.1 44 3 = 3 then 1 else 0)) := by
  have ok : mOkP md_X5_holdsReals := ok_at 49 (by decide) rfl
  refine mC_of (md := md_X5_holdsReals) rfl (lt_at (by decide)) rfl ?_
  refine mGo_run (n := 400) ok rfl ?_
  refine mGo_if ok rfl (fun h => ?_) (fun h => ?_)
  · refine mGo_run (n := 400) ok rfl ?_
    rw [if_pos (Or.inl h)]
    exact mGo_ret ok rfl (Or.inr rfl) (⟨rfl, rfl, rfl⟩)
  · refine mGo_run (n := 400) ok rfl ?_
    refine mGo_if ok rfl (fun h1 => ?_) (fun h1 => ?_)
    · refine mGo_run (n := 400) ok rfl ?_
      rw [if_pos (Or.inr h1)]
      exact mGo_ret ok rfl (Or.inr rfl) (⟨rfl, rfl, rfl⟩)
    · refine mGo_run (n := 400) ok rfl ?_
      rw [if_neg (fun z => z.elim h h1)]
      exact mGo_ret ok rfl (Or.inl rfl) (⟨rfl, rfl, rfl⟩)
theorem c_covers44 {n : Nat} (hl : σ.1 44 4 = nI n) (i c : Int32) : mNP g l d 50 [.ref 44, .int i, .int c] lk ex σ (.int (bI (covB n i c))) := by
  have ok : mOkP md_X5_covers := ok_at 50 (by decide) rfl
  refine mC_of (md := md_X5_covers) rfl (lt_at (by decide)) rfl ?_
  have no : ¬ qCov n i c → mGo g l d md_X5_covers (SH lk ex).length (mTot (SH lk ex)) (30, [some (.ref 44), some (.int i), some (.int c)], [], SH lk ex, σ) (fun r sp σ1 => r = some (.int (bI (covB n i c))) ∧ sp = SH lk ex ∧ σ1 = σ) := by
    intro hq
    have e : covB n i c = false := by
      cases hh : covB n i c with
      | false => rfl
      | true => exact absurd (covB_iff.mp hh) hq
    rw [e]
    refine mGo_run (n := 400) ok rfl ?_
    exact mGo_ret ok rfl (Or.inl rfl) (⟨rfl, rfl, rfl⟩)
  refine mGo_run (n := 400) ok rfl ?_
  refine mGo_if ok rfl (fun h => ?_) (fun h => ?_)
  · exact no (fun z => absurd h (Int32.not_lt.mpr z.1))
  · refine mGo_run (n := 400) ok rfl ?_
    refine mGo_if ok rfl (fun h1 => ?_) (fun h1 => ?_)
    · exact no (fun z => absurd h1 (Int32.not_lt.mpr z.2.1))
    · refine mGo_run (n := 400) ok rfl ?_
      rw [hl]
      refine mGo_if ok rfl (fun h2 => ?_) (fun h2 => ?_)
      · exact no (fun z => absurd h2 (Int32.not_lt.mpr z.2.2.1))
      · refine mGo_run (n := 400) ok rfl ?_
        rw [hl]
        refine mGo_if ok rfl (fun h3 => ?_) (fun h3 => ?_)
        · exact no (fun z => absurd h3 (Int32.not_lt.mpr z.2.2.2))
        · rw [covB_iff.mpr ⟨Int32.not_lt.mp h, Int32.not_lt.mp h1, Int32.not_lt.mp h2, Int32.not_lt.mp h3⟩]
          refine mGo_run (n := 400) ok rfl ?_
          exact mGo_ret ok rfl (Or.inr rfl) (⟨rfl, rfl, rfl⟩)
theorem c_fillL44 (v : Int64) : mNV g l d 197 [.ref 45, .long v] lk ex σ (fun σ1 => fr 45 46 σ σ1 ∧ ∀ i, i < 40 → σ1.2.1 45 i = v) := by
  have ok : mOkP md_J7_fillL := ok_at 197 (by decide) rfl
  refine mC_of (md := md_J7_fillL) rfl (lt_at (by decide)) rfl ?_
  refine mGo_runS 6 (n := 400) ok rfl ?_
  have loop : ∀ m i, i + m = 40 → ∀ τ : mHp, fr 45 46 σ τ → (∀ j, j < i → τ.2.1 45 j = v) → mGo g l d md_J7_fillL (SH lk ex).length (mTot (SH lk ex)) (6, [some (.ref 45), some (.long v), none, some (.int (nI i)), some (.int (nI 40))], [], SH lk ex, τ) (fun r sp σ1 => r = none ∧ sp = SH lk ex ∧ (fr 45 46 σ σ1 ∧ ∀ i, i < 40 → σ1.2.1 45 i = v)) := by
    intro m
    induction m with
    | zero =>
      intro i hi τ t1 t2
      refine mGo_run (n := 400) ok rfl ?_
      refine mGo_ifI ok rfl (nI_leI (a := 40) (b := i) (by omega) (by omega)) (fun h => ?_) (fun h => ?_)
      · refine mGo_run (n := 400) ok rfl ?_
        exact mGo_ret ok rfl trivial (⟨rfl, rfl, t1, fun j hj => t2 j (by omega)⟩)
      · omega
    | succ m ih =>
      intro i hi τ t1 t2
      refine mGo_run (n := 400) ok rfl ?_
      refine mGo_ifI ok rfl (nI_leI (a := 40) (b := i) (by omega) (by omega)) (fun h => ?_) (fun h => ?_)
      · omega
      · refine mGo_run (n := 400) ok rfl ?_
        refine mGo_side ok rfl (nI_in (by omega) (by omega)) ?_
        rw [nI_clamp (by omega)]
        refine mGo_runS 6 (n := 400) ok rfl ?_
        rw [nI_1]
        refine ih (i + 1) (by omega) _ (t1.WL (by omega) (by omega)) (fun j hj => ?_)
        rw [WL_at]
        by_cases z : j = i
        · rw [if_pos ⟨rfl, z⟩]
        · rw [if_neg (fun y => z y.2)]; exact t2 j (by omega)
  exact loop 40 0 (by omega) σ fr.refl (fun j hj => by omega)
theorem c_fillD44 (v : UInt64) : mNV g l d 195 [.ref 46, .double v] lk ex σ (fun σ1 => fr 46 47 σ σ1 ∧ ∀ i, i < 40 → σ1.2.2 46 i = v) := by
  have ok : mOkP md_J7_fillD := ok_at 195 (by decide) rfl
  refine mC_of (md := md_J7_fillD) rfl (lt_at (by decide)) rfl ?_
  refine mGo_runS 6 (n := 400) ok rfl ?_
  have loop : ∀ m i, i + m = 40 → ∀ τ : mHp, fr 46 47 σ τ → (∀ j, j < i → τ.2.2 46 j = v) → mGo g l d md_J7_fillD (SH lk ex).length (mTot (SH lk ex)) (6, [some (.ref 46), some (.double v), none, some (.int (nI i)), some (.int (nI 40))], [], SH lk ex, τ) (fun r sp σ1 => r = none ∧ sp = SH lk ex ∧ (fr 46 47 σ σ1 ∧ ∀ i, i < 40 → σ1.2.2 46 i = v)) := by
    intro m
    induction m with
    | zero =>
      intro i hi τ t1 t2
      refine mGo_run (n := 400) ok rfl ?_
      refine mGo_ifI ok rfl (nI_leI (a := 40) (b := i) (by omega) (by omega)) (fun h => ?_) (fun h => ?_)
      · refine mGo_run (n := 400) ok rfl ?_
        exact mGo_ret ok rfl trivial (⟨rfl, rfl, t1, fun j hj => t2 j (by omega)⟩)
      · omega
    | succ m ih =>
      intro i hi τ t1 t2
      refine mGo_run (n := 400) ok rfl ?_
      refine mGo_ifI ok rfl (nI_leI (a := 40) (b := i) (by omega) (by omega)) (fun h => ?_) (fun h => ?_)
      · omega
      · refine mGo_run (n := 400) ok rfl ?_
        refine mGo_side ok rfl (nI_in (by omega) (by omega)) ?_
        rw [nI_clamp (by omega)]
        refine mGo_runS 6 (n := 400) ok rfl ?_
        rw [nI_1]
        refine ih (i + 1) (by omega) _ (t1.WD (by omega) (by omega)) (fun j hj => ?_)
        rw [WD_at]
        by_cases z : j = i
        · rw [if_pos ⟨rfl, z⟩]
        · rw [if_neg (fun y => z y.2)]; exact t2 j (by omega)
  exact loop 40 0 (by omega) σ fr.refl (fun j hj => by omega)
theorem c_fillAnew44 (t z : Int32) : mNV g l (d + 1) 51 [.ref 44, .int t, .int z] lk ex σ (fun σ1 => fr 44 48 σ σ1 ∧ σ1.1 44 3 = t ∧ σ1.1 44 4 = z ∧ ∀ i, i < 40 → σ1.2.1 45 i = 0 ∧ σ1.2.2 46 i = 0 ∧ σ1.1 47 i = 0) := by
  have ok : mOkP md_X5_fillAnew := ok_at 51 (by decide) rfl
  refine mC_of (md := md_X5_fillAnew) rfl (lt_at (by decide)) rfl ?_
  refine mGo_run (n := 400) ok rfl ?_
  refine mGo_callV ok rfl (by omega) (c_fillL44 (d := d) 0) (fun τ1 hτ1 => ?_)
  obtain ⟨a1, a2⟩ := hτ1
  refine mGo_run (n := 400) ok rfl ?_
  refine mGo_callV ok rfl (by omega) (c_fillD44 (d := d) 0) (fun τ2 hτ2 => ?_)
  obtain ⟨b1, b2⟩ := hτ2
  refine mGo_run (n := 400) ok rfl ?_
  refine mGo_callV ok rfl (by omega) (c_fillI (d := d) (q := 47) (n := 40) rfl (by omega) (by omega) 0) (fun τ3 hτ3 => ?_)
  have c1 : fr 47 48 τ2 τ3 := by
    intro i hi
    rw [hτ3]
    exact ⟨if_neg (by omega), rfl, rfl⟩
  have c2 : ∀ i, i < 40 → τ3.1 47 i = 0 := by
    intro i hi
    rw [hτ3]
    show (if (47 : Nat) = 47 then (fun j => if j < 40 then (0 : Int32) else τ2.1 47 j) else τ2.1 47) i = 0
    rw [if_pos rfl]
    exact if_pos hi
  refine mGo_run (n := 400) ok rfl ?_
  refine mGo_ret ok rfl trivial ⟨rfl, rfl, ((((a1.wide (by omega) (by omega)).trans (b1.wide (by omega) (by omega))).trans (c1.wide (by omega) (by omega))).WI (by omega) (by omega)).WI (by omega) (by omega), ?_, ?_, fun i hi => ⟨?_, ?_, ?_⟩⟩
  · rw [WI_at, if_neg (by omega), WI_at, if_pos ⟨rfl, rfl⟩]
  · rw [WI_at, if_pos ⟨rfl, rfl⟩]
  · show τ3.2.1 45 i = 0
    rw [(c1 45 (by omega)).2.1, (b1 45 (by omega)).2.1]
    exact a2 i hi
  · show τ3.2.2 46 i = 0
    rw [(c1 46 (by omega)).2.2]
    exact b2 i hi
  · rw [WI_at, if_neg (by omega), WI_at, if_neg (by omega)]
    exact c2 i hi
theorem c_drop44 : mNR g l (d + 1) 52 [.ref 44] lk ex σ (.int (if σ.1 44 3 = -1 then 0 else 1)) (fun σ1 => σ1 = mWI (mWI σ 44 3 (-1)) 44 4 0) := by
  have ok : mOkP md_X5_drop := ok_at 52 (by decide) rfl
  refine mC_of (md := md_X5_drop) rfl (lt_at (by decide)) rfl ?_
  refine mGo_run (n := 400) ok rfl ?_
  refine mGo_callP ok rfl (by omega) (c_isEmpty44 (d := d)) ?_
  by_cases h : σ.1 44 3 = -1
  · rw [if_pos h, if_pos h]
    refine mGo_if ok rfl (fun h1 => ?_) (fun h1 => ?_)
    · exact absurd h1 (by decide)
    · refine mGo_run (n := 400) ok rfl ?_
      exact mGo_ret ok rfl (Or.inl rfl) (⟨rfl, rfl, rfl⟩)
  · rw [if_neg h, if_neg h]
    refine mGo_if ok rfl (fun h1 => ?_) (fun h1 => ?_)
    · refine mGo_run (n := 400) ok rfl ?_
      exact mGo_ret ok rfl (Or.inr rfl) (⟨rfl, rfl, rfl⟩)
    · exact absurd rfl h1
theorem c_read44 {n a t : Nat} (hn : n ≤ 40) (hl : σ.1 44 4 = nI n) (ha : a < n) (ht : t < 4) (hty : σ.1 44 3 = nI t) : mNP g l (d + 1) 54 [.ref 44, .int (nI a)] lk ex σ (.long (rdV t (σ.2.1 45 a) (σ.1 47 a) (σ.2.2 46 a))) := by
  have ok : mOkP md_X5_read := ok_at 54 (by decide) rfl
  refine mC_of (md := md_X5_read) rfl (lt_at (by decide)) rfl ?_
  unfold rdV
  refine mGo_run (n := 400) ok rfl ?_
  refine mGo_callP ok rfl (by omega) (c_covers44 (d := d) hl (nI a) 1) ?_
  rw [cov1 hn ha]
  refine mGo_if ok rfl (fun h => ?_) (fun h => ?_)
  · exact absurd h (by decide)
  · refine mGo_run (n := 400) ok rfl ?_
    refine mGo_callP ok rfl (by omega) (c_holdsReals44 (d := d)) ?_
    rw [hty]
    by_cases h2 : t < 2
    · have e : ¬ (nI t = 2 ∨ nI t = 3) := by
        rintro (z | z)
        · have := (nI_eq (a := t) (b := 2) (by omega) (by omega)).mp z; omega
        · have := (nI_eq (a := t) (b := 3) (by omega) (by omega)).mp z; omega
      rw [if_neg e, if_pos h2]
      refine mGo_if ok rfl (fun h1 => ?_) (fun h1 => ?_)
      · refine mGo_run (n := 400) ok rfl ?_
        refine mGo_side ok rfl (nI_in (by omega) (by omega)) ?_
        rw [nI_clamp (by omega)]
        refine mGo_run (n := 400) ok rfl ?_
        exact mGo_ret ok rfl trivial (⟨rfl, rfl, rfl⟩)
      · exact absurd rfl h1
    · have e : nI t = 2 ∨ nI t = 3 := by
        rcases (show t = 2 ∨ t = 3 by omega) with z | z
        · exact Or.inl (by rw [z]; rfl)
        · exact Or.inr (by rw [z]; rfl)
      rw [if_pos e, if_neg h2]
      refine mGo_if ok rfl (fun h1 => ?_) (fun h1 => ?_)
      · exact absurd h1 (by decide)
      · refine mGo_run (n := 400) ok rfl ?_
        refine mGo_side ok rfl (nI_in (by omega) (by omega)) ?_
        rw [nI_clamp (by omega)]
        refine mGo_run (n := 400) ok rfl ?_
        refine mGo_sw ok rfl ⟨fun z1 => ?_, fun z1 => ⟨fun z2 => ?_, fun z2 => ⟨fun z3 => ?_, fun z3 => ?_⟩⟩⟩
        · have z1 : σ.1 47 a = 1 := z1
          rw [if_pos z1]
          refine mGo_run (n := 400) ok rfl ?_
          exact mGo_ret ok rfl trivial (⟨rfl, rfl, rfl⟩)
        · have z1 : ¬ σ.1 47 a = 1 := z1
          have z2 : σ.1 47 a = 2 := z2
          rw [if_neg z1, if_pos z2]
          refine mGo_run (n := 400) ok rfl ?_
          exact mGo_ret ok rfl trivial (⟨rfl, rfl, rfl⟩)
        · have z1 : ¬ σ.1 47 a = 1 := z1
          have z2 : ¬ σ.1 47 a = 2 := z2
          have z3 : σ.1 47 a = 3 := z3
          rw [if_neg z1, if_neg z2, if_pos z3]
          refine mGo_run (n := 400) ok rfl ?_
          exact mGo_ret ok rfl trivial (⟨rfl, rfl, rfl⟩)
        · have z1 : ¬ σ.1 47 a = 1 := z1
          have z2 : ¬ σ.1 47 a = 2 := z2
          have z3 : ¬ σ.1 47 a = 3 := z3
          rw [if_neg z1, if_neg z2, if_neg z3]
          refine mGo_run (n := 400) ok rfl ?_
          refine mGo_side ok rfl (nI_in (by omega) (by omega)) ?_
          rw [nI_clamp (by omega)]
          refine mGo_run (n := 400) ok rfl ?_
          exact mGo_ret ok rfl trivial (⟨rfl, rfl, rfl⟩)
theorem c_slotAt44 : mNP g l d 112 [.ref 0, .int (nI 3)] lk ex σ (.ref 44) := by
  have ok : mOkP md_X8_slotAt := ok_at 112 (by decide) rfl
  refine mC_of (md := md_X8_slotAt) rfl (lt_at (by decide)) rfl ?_
  refine mGo_run (n := 400) ok rfl ?_
  refine mGo_if ok rfl (fun h => ?_) (fun h => ?_)
  · exact absurd h (by decide)
  · refine mGo_run (n := 400) ok rfl ?_
    refine mGo_if ok rfl (fun h1 => ?_) (fun h1 => ?_)
    · exact absurd h1 (by decide)
    · refine mGo_run (n := 400) ok rfl ?_
      refine mGo_side ok rfl (nI_in (by omega) (by omega)) ?_
      refine mGo_run (n := 400) ok rfl ?_
      exact mGo_ret ok rfl trivial (⟨rfl, rfl, rfl⟩)
theorem c_slotAt0 {s : Int32} (hs : ¬ ∃ k, k < 4 ∧ s = nI k) : mNP g l d 112 [.ref 0, .int s] lk ex σ .null := by
  have ok : mOkP md_X8_slotAt := ok_at 112 (by decide) rfl
  refine mC_of (md := md_X8_slotAt) rfl (lt_at (by decide)) rfl ?_
  refine mGo_run (n := 400) ok rfl ?_
  refine mGo_if ok rfl (fun h => ?_) (fun h => ?_)
  · refine mGo_run (n := 400) ok rfl ?_
    exact mGo_ret ok rfl trivial (⟨rfl, rfl, rfl⟩)
  · refine mGo_run (n := 400) ok rfl ?_
    refine mGo_if ok rfl (fun h1 => ?_) (fun h1 => ?_)
    · refine mGo_run (n := 400) ok rfl ?_
      exact mGo_ret ok rfl trivial (⟨rfl, rfl, rfl⟩)
    · exact absurd ((i_in (n := 4) (by omega)).mp ⟨Int32.not_lt.mp h, Int32.not_le.mp h1⟩) hs
end T
