/-! the class's public methods on slots -/
abbrev aSl : Type := Nat → Int32 × Nat
def sOk (S : aSl) : Prop := ∀ k, k < 4 → (S k).2 ≤ 40 ∧ ((S k).1 = -1 ∧ (S k).2 = 0 ∨ ∃ t, t < 4 ∧ (S k).1 = nI t)
def cSl (σ : mHp) (S : aSl) : Prop := ∀ k, k < 4 → σ.1 (32 + 4 * k) 3 = (S k).1 ∧ σ.1 (32 + 4 * k) 4 = nI (S k).2
theorem ty_ne {t : Nat} (h : t < 4) : nI t ≠ -1 := fun z => absurd (show nI t < 0 by rw [z]; decide) (nI_pos (by omega))
theorem sl_in {s : Int32} : (0 ≤ s ∧ s < 4) ↔ ∃ k, k < 4 ∧ s = nI k := i_in (n := 4) (by omega)
/-- answers -/
def qAl (s t z : Int32) : Int32 := if (0 ≤ s ∧ s < 4) ∧ (0 ≤ t ∧ t ≤ 3) ∧ z ≤ 40 then (if z < 0 then -14 else z) else -1
def qRel (S : aSl) (s : Int32) : Int32 := if 0 ≤ s ∧ s < 4 then (if (S s.toNatClampNeg).1 = -1 then 0 else 1) else -1
def qPut (S : aSl) (s i : Int32) : Int32 := if 0 ≤ s ∧ s < 4 then (if (S s.toNatClampNeg).1 = -1 then -11 else if covB (S s.toNatClampNeg).2 i 1 = true then 1 else -13) else -1
def qCmp (S : aSl) (s i o : Int32) : Int32 := if (0 ≤ s ∧ s < 4) ∧ (o = 0 ∨ o = 1) then (if (S s.toNatClampNeg).1 = -1 then -11 else if (S s.toNatClampNeg).1 = 2 ∨ (S s.toNatClampNeg).1 = 3 then (if covB (S s.toNatClampNeg).2 i 1 = true then 1 else -13) else -12) else -1
/-- what the methods do to the cells of slot b -/
def alP (b : Nat) (t z : Int32) (σ σ1 : mHp) : Prop := fr b (b + 4) σ σ1 ∧ σ1.1 b 3 = t ∧ σ1.1 b 4 = z ∧ ∀ i, i < 40 → σ1.2.1 (b + 1) i = 0 ∧ σ1.2.2 (b + 2) i = 0 ∧ σ1.1 (b + 3) i = 0
def wrP (b t a : Nat) (v : Int64) (σ σ1 : mHp) : Prop := fr (b + 1) (b + 4) σ σ1 ∧ (∀ j, σ1.2.1 (b + 1) j = if j = a then wrW t v (σ.2.1 (b + 1) j) else σ.2.1 (b + 1) j) ∧ (∀ j, σ1.2.2 (b + 2) j = if j = a then wrX t v (σ.2.2 (b + 2) j) else σ.2.2 (b + 2) j) ∧ ∀ j, σ1.1 (b + 3) j = if j = a then 0 else σ.1 (b + 3) j
def opE (o : Int32) (t : Nat) (m : Int32) (x : UInt64) (op : Int32) : Int32 × UInt64 := if o = 0 then dvE t m x op else rmE t m x op
def opP (b t a : Nat) (o op : Int32) (σ σ1 : mHp) : Prop := fr (b + 2) (b + 4) σ σ1 ∧ (∀ j, σ1.2.2 (b + 2) j = if j = a then (opE o t (σ.1 (b + 3) a) (σ.2.2 (b + 2) a) op).2 else σ.2.2 (b + 2) j) ∧ ∀ j, σ1.1 (b + 3) j = if j = a then (opE o t (σ.1 (b + 3) a) (σ.2.2 (b + 2) a) op).1 else σ.1 (b + 3) j
section T
variable {g : mG} {l : Launch} {d : Nat} {lk : Nat} {ex : mSh} {σ : mHp} {S : aSl}
theorem x_allocate32 (t z : Int32) : mNR g l (d + 2) 103 [.ref 0, .int (nI 0), .int t, .int z] lk ex σ (.int (if (0 ≤ t ∧ t ≤ 3) ∧ z ≤ 40 then (if z < 0 then -14 else z) else -1)) (fun σ1 => if ((0 ≤ t ∧ t ≤ 3) ∧ z ≤ 40) ∧ 0 ≤ z then alP 32 t z σ σ1 else σ1 = σ) := by
  have ok : mOkP md_X8_allocate := ok_at 103 (by decide) rfl
  refine mC_of (md := md_X8_allocate) rfl (lt_at (by decide)) rfl ?_
  have bad : ∀ L4 : Option Value, ¬ ((0 ≤ t ∧ t ≤ 3) ∧ z ≤ 40) → mGo g l (d + 2) md_X8_allocate (SH lk ex).length (mTot (SH lk ex)) (27, [some (.ref 0), some (.int (nI 0)), some (.int t), some (.int z), L4], [], SH lk ex, σ) (fun r sp σ1 => r = some (.int (if (0 ≤ t ∧ t ≤ 3) ∧ z ≤ 40 then (if z < 0 then -14 else z) else -1)) ∧ sp = SH lk ex ∧ (if ((0 ≤ t ∧ t ≤ 3) ∧ z ≤ 40) ∧ 0 ≤ z then alP 32 t z σ σ1 else σ1 = σ)) := by
    intro L4 hb
    rw [if_neg hb]
    refine mGo_run (n := 400) ok rfl ?_
    exact mGo_ret ok rfl trivial (⟨rfl, rfl, by rw [if_neg (fun y => hb y.1)]⟩)
  refine mGo_run (n := 400) ok rfl ?_
  refine mGo_callP ok rfl (by omega) (c_slotAt32 (d := d)) ?_
  refine mGo_run (n := 400) ok rfl ?_
  refine mGo_if ok rfl (fun h1 => ?_) (fun h1 => ?_)
  · exact bad _ (fun y => absurd h1 (Int32.not_lt.mpr y.1.1))
  · refine mGo_run (n := 400) ok rfl ?_
    refine mGo_if ok rfl (fun h2 => ?_) (fun h2 => ?_)
    · exact bad _ (fun y => absurd h2 (Int32.not_lt.mpr y.1.2))
    · refine mGo_run (n := 400) ok rfl ?_
      refine mGo_if ok rfl (fun h3 => ?_) (fun h3 => ?_)
      · have hg : (0 ≤ t ∧ t ≤ 3) ∧ z ≤ 40 := ⟨⟨Int32.not_lt.mp h1, Int32.not_lt.mp h2⟩, h3⟩
        rw [if_pos hg]
        refine mGo_run (n := 400) ok rfl ?_
        refine mGo_if ok rfl (fun h4 => ?_) (fun h4 => ?_)
        · rw [if_neg (Int32.not_lt.mpr h4)]
          refine mGo_run (n := 400) ok rfl ?_
          refine mGo_callV ok rfl (by omega) (c_fillAnew32 (d := d) t z) (fun τ hτ => ?_)
          refine mGo_run (n := 400) ok rfl ?_
          exact mGo_ret ok rfl trivial (⟨rfl, rfl, by dsimp only; rw [if_pos ⟨hg, h4⟩]; exact hτ⟩)
        · rw [if_pos (Int32.not_le.mp h4)]
          refine mGo_run (n := 400) ok rfl ?_
          exact mGo_ret ok rfl trivial (⟨rfl, rfl, by dsimp only; rw [if_neg (fun y => h4 y.2)]⟩)
      · exact bad _ (fun y => h3 y.2)
theorem x_release32 : mNR g l (d + 2) 104 [.ref 0, .int (nI 0)] lk ex σ (.int (if σ.1 32 3 = -1 then 0 else 1)) (fun σ1 => σ1 = mWI (mWI σ 32 3 (-1)) 32 4 0) := by
  have ok : mOkP md_X8_release := ok_at 104 (by decide) rfl
  refine mC_of (md := md_X8_release) rfl (lt_at (by decide)) rfl ?_
  refine mGo_run (n := 400) ok rfl ?_
  refine mGo_callP ok rfl (by omega) (c_slotAt32 (d := d)) ?_
  refine mGo_run (n := 400) ok rfl ?_
  refine mGo_callR ok rfl (by omega) (c_drop32 (d := d)) (fun τ hτ => ?_)
  by_cases h : σ.1 32 3 = -1
  · rw [if_pos h]
    refine mGo_if ok rfl (fun h1 => ?_) (fun h1 => ?_)
    · refine mGo_run (n := 400) ok rfl ?_
      exact mGo_ret ok rfl trivial (⟨rfl, rfl, hτ⟩)
    · exact absurd rfl h1
  · rw [if_neg h]
    refine mGo_if ok rfl (fun h1 => ?_) (fun h1 => ?_)
    · exact absurd h1 (by decide)
    · refine mGo_run (n := 400) ok rfl ?_
      exact mGo_ret ok rfl trivial (⟨rfl, rfl, hτ⟩)
theorem x_putElement32 (hO : sOk S) (hS : cSl σ S) (i : Int32) (v : Int64) : mNR g l (d + 2) 105 [.ref 0, .int (nI 0), .int i, .long v] lk ex σ (.int (if (S 0).1 = -1 then -11 else if covB (S 0).2 i 1 = true then 1 else -13)) (fun σ1 => (∃ t a, t < 4 ∧ (S 0).1 = nI t ∧ i = nI a ∧ a < (S 0).2 ∧ wrP 32 t a v σ σ1) ∨ ((if (S 0).1 = -1 then (-11 : Int32) else if covB (S 0).2 i 1 = true then 1 else -13) ≠ 1 ∧ σ1 = σ)) := by
  obtain ⟨s1, s2⟩ := hS 0 (by omega)
  obtain ⟨o1, o2⟩ := hO 0 (by omega)
  have s1 : σ.1 32 3 = (S 0).1 := s1
  have s2 : σ.1 32 4 = nI (S 0).2 := s2
  have ok : mOkP md_X8_putElement := ok_at 105 (by decide) rfl
  refine mC_of (md := md_X8_putElement) rfl (lt_at (by decide)) rfl ?_
  refine mGo_run (n := 400) ok rfl ?_
  refine mGo_callP ok rfl (by omega) (c_slotAt32 (d := d)) ?_
  refine mGo_run (n := 400) ok rfl ?_
  refine mGo_callP ok rfl (by omega) (c_isEmpty32 (d := d)) ?_
  rw [s1]
  by_cases he : (S 0).1 = -1
  · rw [if_pos he, if_pos he]
    refine mGo_if ok rfl (fun h1 => ?_) (fun h1 => ?_)
    · exact absurd h1 (by decide)
    · refine mGo_run (n := 400) ok rfl ?_
      exact mGo_ret ok rfl trivial (⟨rfl, rfl, Or.inr ⟨by decide, rfl⟩⟩)
  · rw [if_neg he, if_neg he]
    obtain ⟨t, ht, hty⟩ := o2.resolve_left (fun z => he z.1)
    refine mGo_if ok rfl (fun h1 => ?_) (fun h1 => ?_)
    · refine mGo_run (n := 400) ok rfl ?_
      refine mGo_callP ok rfl (by omega) (c_covers32 (d := d) s2 i 1) ?_
      cases hc : covB (S 0).2 i 1 with
      | false =>
        refine mGo_if ok rfl (fun h2 => ?_) (fun h2 => ?_)
        · refine mGo_run (n := 400) ok rfl ?_
          exact mGo_ret ok rfl trivial (⟨rfl, rfl, Or.inr ⟨by decide, rfl⟩⟩)
        · exact absurd rfl h2
      | true =>
        obtain ⟨a, c, rfl, hc1, hac⟩ := (qCov_iff o1).mp (covB_iff.mp hc)
        have : c = 1 := (nI_eq (a := c) (b := 1) (by omega) (by omega)).mp hc1.symm
        refine mGo_if ok rfl (fun h2 => ?_) (fun h2 => ?_)
        · exact absurd h2 (by decide)
        · refine mGo_run (n := 400) ok rfl ?_
          refine mGo_callV ok rfl (by omega) (c_write32 (d := d) o1 s2 (a := a) (by omega) ht (s1.trans hty) v) (fun τ hτ => ?_)
          refine mGo_run (n := 400) ok rfl ?_
          exact mGo_ret ok rfl trivial (⟨rfl, rfl, Or.inl ⟨t, a, ht, hty, rfl, by omega, hτ⟩⟩)
    · exact absurd rfl h1
theorem x_element32 (hO : sOk S) (hS : cSl σ S) (i : Int32) : mNP g l (d + 2) 106 [.ref 0, .int (nI 0), .int i] lk ex σ (.long (if (S 0).1 ≠ -1 ∧ covB (S 0).2 i 1 = true then rdV (S 0).1.toNatClampNeg (σ.2.1 33 i.toNatClampNeg) (σ.1 35 i.toNatClampNeg) (σ.2.2 34 i.toNatClampNeg) else -9223372036854775808)) := by
  obtain ⟨s1, s2⟩ := hS 0 (by omega)
  obtain ⟨o1, o2⟩ := hO 0 (by omega)
  have s1 : σ.1 32 3 = (S 0).1 := s1
  have s2 : σ.1 32 4 = nI (S 0).2 := s2
  have ok : mOkP md_X8_element := ok_at 106 (by decide) rfl
  refine mC_of (md := md_X8_element) rfl (lt_at (by decide)) rfl ?_
  refine mGo_run (n := 400) ok rfl ?_
  refine mGo_callP ok rfl (by omega) (c_slotAt32 (d := d)) ?_
  refine mGo_run (n := 400) ok rfl ?_
  refine mGo_callP ok rfl (by omega) (c_isEmpty32 (d := d)) ?_
  rw [s1]
  by_cases he : (S 0).1 = -1
  · rw [if_pos he, if_neg (fun z => z.1 he)]
    refine mGo_if ok rfl (fun h1 => ?_) (fun h1 => ?_)
    · exact absurd h1 (by decide)
    · refine mGo_run (n := 400) ok rfl ?_
      exact mGo_ret ok rfl trivial (⟨rfl, rfl, rfl⟩)
  · rw [if_neg he]
    obtain ⟨t, ht, hty⟩ := o2.resolve_left (fun z => he z.1)
    refine mGo_if ok rfl (fun h1 => ?_) (fun h1 => ?_)
    · refine mGo_run (n := 400) ok rfl ?_
      refine mGo_callP ok rfl (by omega) (c_covers32 (d := d) s2 i 1) ?_
      cases hc : covB (S 0).2 i 1 with
      | false =>
        rw [if_neg (fun z => by cases z.2)]
        refine mGo_if ok rfl (fun h2 => ?_) (fun h2 => ?_)
        · refine mGo_run (n := 400) ok rfl ?_
          exact mGo_ret ok rfl trivial (⟨rfl, rfl, rfl⟩)
        · exact absurd rfl h2
      | true =>
        obtain ⟨a, c, rfl, hc1, hac⟩ := (qCov_iff o1).mp (covB_iff.mp hc)
        have : c = 1 := (nI_eq (a := c) (b := 1) (by omega) (by omega)).mp hc1.symm
        rw [if_pos ⟨he, rfl⟩]
        refine mGo_if ok rfl (fun h2 => ?_) (fun h2 => ?_)
        · exact absurd h2 (by decide)
        · refine mGo_run (n := 400) ok rfl ?_
          refine mGo_callP ok rfl (by omega) (c_read32 (d := d) o1 s2 (a := a) (by omega) ht (s1.trans hty)) ?_
          refine mGo_run (n := 400) ok rfl ?_
          exact mGo_ret ok rfl trivial (⟨by rw [hty, nI_clamp (by omega), nI_clamp (by omega)], rfl, rfl⟩)
    · exact absurd rfl h1
theorem x_compute32 (hO : sOk S) (hS : cSl σ S) (hX : ∀ t a, (S 0).1 = nI t → t = 2 ∨ t = 3 → a < (S 0).2 → xE t (σ.1 35 a) (σ.2.2 34 a)) (i o op : Int32) : mNR g l (d + 2) 107 [.ref 0, .int (nI 0), .int i, .int o, .int op] lk ex σ (.int (if o = 0 ∨ o = 1 then (if (S 0).1 = -1 then -11 else if (S 0).1 = 2 ∨ (S 0).1 = 3 then (if covB (S 0).2 i 1 = true then 1 else -13) else -12) else -1)) (fun σ1 => (∃ t a, (t = 2 ∨ t = 3) ∧ (o = 0 ∨ o = 1) ∧ (S 0).1 = nI t ∧ i = nI a ∧ a < (S 0).2 ∧ opP 32 t a o op σ σ1) ∨ ((if o = 0 ∨ o = 1 then (if (S 0).1 = -1 then (-11 : Int32) else if (S 0).1 = 2 ∨ (S 0).1 = 3 then (if covB (S 0).2 i 1 = true then 1 else -13) else -12) else -1) ≠ 1 ∧ σ1 = σ)) := by
  obtain ⟨s1, s2⟩ := hS 0 (by omega)
  obtain ⟨o1, o2⟩ := hO 0 (by omega)
  have s1 : σ.1 32 3 = (S 0).1 := s1
  have s2 : σ.1 32 4 = nI (S 0).2 := s2
  have ok : mOkP md_X8_compute := ok_at 107 (by decide) rfl
  refine mC_of (md := md_X8_compute) rfl (lt_at (by decide)) rfl ?_
  have go : (o = 0 ∨ o = 1) → mGo g l (d + 2) md_X8_compute (SH lk ex).length (mTot (SH lk ex)) (23, [some (.ref 0), some (.int (nI 0)), some (.int i), some (.int o), some (.int op), some (.ref 32)], [], SH lk ex, σ) (fun r sp σ1 => r = some (.int (if o = 0 ∨ o = 1 then (if (S 0).1 = -1 then -11 else if (S 0).1 = 2 ∨ (S 0).1 = 3 then (if covB (S 0).2 i 1 = true then 1 else -13) else -12) else -1)) ∧ sp = SH lk ex ∧ ((∃ t a, (t = 2 ∨ t = 3) ∧ (o = 0 ∨ o = 1) ∧ (S 0).1 = nI t ∧ i = nI a ∧ a < (S 0).2 ∧ opP 32 t a o op σ σ1) ∨ ((if o = 0 ∨ o = 1 then (if (S 0).1 = -1 then (-11 : Int32) else if (S 0).1 = 2 ∨ (S 0).1 = 3 then (if covB (S 0).2 i 1 = true then 1 else -13) else -12) else -1) ≠ 1 ∧ σ1 = σ))) := by
    intro ho
    rw [if_pos ho]
    refine mGo_run (n := 400) ok rfl ?_
    refine mGo_callP ok rfl (by omega) (c_isEmpty32 (d := d)) ?_
    rw [s1]
    by_cases he : (S 0).1 = -1
    · rw [if_pos he, if_pos he]
      refine mGo_if ok rfl (fun h1 => ?_) (fun h1 => ?_)
      · exact absurd h1 (by decide)
      · refine mGo_run (n := 400) ok rfl ?_
        exact mGo_ret ok rfl trivial (⟨rfl, rfl, Or.inr ⟨by decide, rfl⟩⟩)
    · rw [if_neg he, if_neg he]
      obtain ⟨t, ht, hty⟩ := o2.resolve_left (fun z => he z.1)
      refine mGo_if ok rfl (fun h1 => ?_) (fun h1 => ?_)
      · refine mGo_run (n := 400) ok rfl ?_
        refine mGo_callP ok rfl (by omega) (c_holdsReals32 (d := d)) ?_
        rw [s1]
        by_cases hr : (S 0).1 = 2 ∨ (S 0).1 = 3
        · rw [if_pos hr, if_pos hr]
          have ht2 : t = 2 ∨ t = 3 := by
            rw [hty] at hr
            rcases hr with z | z
            · exact Or.inl ((nI_eq (a := t) (b := 2) (by omega) (by omega)).mp z)
            · exact Or.inr ((nI_eq (a := t) (b := 3) (by omega) (by omega)).mp z)
          refine mGo_if ok rfl (fun h2 => ?_) (fun h2 => ?_)
          · exact absurd h2 (by decide)
          · refine mGo_run (n := 400) ok rfl ?_
            refine mGo_callP ok rfl (by omega) (c_covers32 (d := d) s2 i 1) ?_
            cases hc : covB (S 0).2 i 1 with
            | false =>
              refine mGo_if ok rfl (fun h3 => ?_) (fun h3 => ?_)
              · refine mGo_run (n := 400) ok rfl ?_
                exact mGo_ret ok rfl trivial (⟨rfl, rfl, Or.inr ⟨by decide, rfl⟩⟩)
              · exact absurd rfl h3
            | true =>
              obtain ⟨a, c, rfl, hc1, hac⟩ := (qCov_iff o1).mp (covB_iff.mp hc)
              have : c = 1 := (nI_eq (a := c) (b := 1) (by omega) (by omega)).mp hc1.symm
              have hx := hX t a hty ht2 (by omega)
              refine mGo_if ok rfl (fun h3 => ?_) (fun h3 => ?_)
              · exact absurd h3 (by decide)
              · refine mGo_run (n := 400) ok rfl ?_
                refine mGo_if ok rfl (fun h4 => ?_) (fun h4 => ?_)
                · have h4 : o = 0 := h4
                  refine mGo_run (n := 400) ok rfl ?_
                  refine mGo_callV ok rfl (by omega) (c_divide32 (d := d) o1 s2 (a := a) (by omega) ht2 (s1.trans hty) op hx) (fun τ hτ => ?_)
                  refine mGo_run (n := 400) ok rfl ?_
                  exact mGo_ret ok rfl trivial (⟨rfl, rfl, Or.inl ⟨t, a, ht2, ho, hty, rfl, by omega, by unfold opP opE; rw [if_pos h4]; exact hτ⟩⟩)
                · have h4 : ¬ o = 0 := h4
                  refine mGo_run (n := 400) ok rfl ?_
                  refine mGo_callV ok rfl (by omega) (c_keepRemainder32 (d := d) o1 s2 (a := a) (by omega) ht2 (s1.trans hty) op hx) (fun τ hτ => ?_)
                  refine mGo_run (n := 400) ok rfl ?_
                  exact mGo_ret ok rfl trivial (⟨rfl, rfl, Or.inl ⟨t, a, ht2, ho, hty, rfl, by omega, by unfold opP opE; rw [if_neg h4]; exact hτ⟩⟩)
        · rw [if_neg hr, if_neg hr]
          refine mGo_if ok rfl (fun h2 => ?_) (fun h2 => ?_)
          · refine mGo_run (n := 400) ok rfl ?_
            exact mGo_ret ok rfl trivial (⟨rfl, rfl, Or.inr ⟨by decide, rfl⟩⟩)
          · exact absurd rfl h2
      · exact absurd rfl h1
  refine mGo_run (n := 400) ok rfl ?_
  refine mGo_callP ok rfl (by omega) (c_slotAt32 (d := d)) ?_
  refine mGo_run (n := 400) ok rfl ?_
  refine mGo_if ok rfl (fun h1 => ?_) (fun h1 => ?_)
  · exact go (Or.inl h1)
  · refine mGo_run (n := 400) ok rfl ?_
    refine mGo_if ok rfl (fun h2 => ?_) (fun h2 => ?_)
    · exact go (Or.inr h2)
    · have hn : ¬ (o = 0 ∨ o = 1) := fun z => z.elim h1 h2
      rw [if_neg hn]
      refine mGo_run (n := 400) ok rfl ?_
      exact mGo_ret ok rfl trivial (⟨rfl, rfl, Or.inr ⟨by decide, rfl⟩⟩)
theorem x_allocate36 (t z : Int32) : mNR g l (d + 2) 103 [.ref 0, .int (nI 1), .int t, .int z] lk ex σ (.int (if (0 ≤ t ∧ t ≤ 3) ∧ z ≤ 40 then (if z < 0 then -14 else z) else -1)) (fun σ1 => if ((0 ≤ t ∧ t ≤ 3) ∧ z ≤ 40) ∧ 0 ≤ z then alP 36 t z σ σ1 else σ1 = σ) := by
  have ok : mOkP md_X8_allocate := ok_at 103 (by decide) rfl
  refine mC_of (md := md_X8_allocate) rfl (lt_at (by decide)) rfl ?_
  have bad : ∀ L4 : Option Value, ¬ ((0 ≤ t ∧ t ≤ 3) ∧ z ≤ 40) → mGo g l (d + 2) md_X8_allocate (SH lk ex).length (mTot (SH lk ex)) (27, [some (.ref 0), some (.int (nI 1)), some (.int t), some (.int z), L4], [], SH lk ex, σ) (fun r sp σ1 => r = some (.int (if (0 ≤ t ∧ t ≤ 3) ∧ z ≤ 40 then (if z < 0 then -14 else z) else -1)) ∧ sp = SH lk ex ∧ (if ((0 ≤ t ∧ t ≤ 3) ∧ z ≤ 40) ∧ 0 ≤ z then alP 36 t z σ σ1 else σ1 = σ)) := by
    intro L4 hb
    rw [if_neg hb]
    refine mGo_run (n := 400) ok rfl ?_
    exact mGo_ret ok rfl trivial (⟨rfl, rfl, by rw [if_neg (fun y => hb y.1)]⟩)
  refine mGo_run (n := 400) ok rfl ?_
  refine mGo_callP ok rfl (by omega) (c_slotAt36 (d := d)) ?_
  refine mGo_run (n := 400) ok rfl ?_
  refine mGo_if ok rfl (fun h1 => ?_) (fun h1 => ?_)
  · exact bad _ (fun y => absurd h1 (Int32.not_lt.mpr y.1.1))
  · refine mGo_run (n := 400) ok rfl ?_
    refine mGo_if ok rfl (fun h2 => ?_) (fun h2 => ?_)
    · exact bad _ (fun y => absurd h2 (Int32.not_lt.mpr y.1.2))
    · refine mGo_run (n := 400) ok rfl ?_
      refine mGo_if ok rfl (fun h3 => ?_) (fun h3 => ?_)
      · have hg : (0 ≤ t ∧ t ≤ 3) ∧ z ≤ 40 := ⟨⟨Int32.not_lt.mp h1, Int32.not_lt.mp h2⟩, h3⟩
        rw [if_pos hg]
        refine mGo_run (n := 400) ok rfl ?_
        refine mGo_if ok rfl (fun h4 => ?_) (fun h4 => ?_)
        · rw [if_neg (Int32.not_lt.mpr h4)]
          refine mGo_run (n := 400) ok rfl ?_
          refine mGo_callV ok rfl (by omega) (c_fillAnew36 (d := d) t z) (fun τ hτ => ?_)
          refine mGo_run (n := 400) ok rfl ?_
          exact mGo_ret ok rfl trivial (⟨rfl, rfl, by dsimp only; rw [if_pos ⟨hg, h4⟩]; exact hτ⟩)
        · rw [if_pos (Int32.not_le.mp h4)]
          refine mGo_run (n := 400) ok rfl ?_
          exact mGo_ret ok rfl trivial (⟨rfl, rfl, by dsimp only; rw [if_neg (fun y => h4 y.2)]⟩)
      · exact bad _ (fun y => h3 y.2)
theorem x_release36 : mNR g l (d + 2) 104 [.ref 0, .int (nI 1)] lk ex σ (.int (if σ.1 36 3 = -1 then 0 else 1)) (fun σ1 => σ1 = mWI (mWI σ 36 3 (-1)) 36 4 0) := by
  have ok : mOkP md_X8_release := ok_at 104 (by decide) rfl
  refine mC_of (md := md_X8_release) rfl (lt_at (by decide)) rfl ?_
  refine mGo_run (n := 400) ok rfl ?_
  refine mGo_callP ok rfl (by omega) (c_slotAt36 (d := d)) ?_
  refine mGo_run (n := 400) ok rfl ?_
  refine mGo_callR ok rfl (by omega) (c_drop36 (d := d)) (fun τ hτ => ?_)
  by_cases h : σ.1 36 3 = -1
  · rw [if_pos h]
    refine mGo_if ok rfl (fun h1 => ?_) (fun h1 => ?_)
    · refine mGo_run (n := 400) ok rfl ?_
      exact mGo_ret ok rfl trivial (⟨rfl, rfl, hτ⟩)
    · exact absurd rfl h1
  · rw [if_neg h]
    refine mGo_if ok rfl (fun h1 => ?_) (fun h1 => ?_)
    · exact absurd h1 (by decide)
    · refine mGo_run (n := 400) ok rfl ?_
      exact mGo_ret ok rfl trivial (⟨rfl, rfl, hτ⟩)
theorem x_putElement36 (hO : sOk S) (hS : cSl σ S) (i : Int32) (v : Int64) : mNR g l (d + 2) 105 [.ref 0, .int (nI 1), .int i, .long v] lk ex σ (.int (if (S 1).1 = -1 then -11 else if covB (S 1).2 i 1 = true then 1 else -13)) (fun σ1 => (∃ t a, t < 4 ∧ (S 1).1 = nI t ∧ i = nI a ∧ a < (S 1).2 ∧ wrP 36 t a v σ σ1) ∨ ((if (S 1).1 = -1 then (-11 : Int32) else if covB (S 1).2 i 1 = true then 1 else -13) ≠ 1 ∧ σ1 = σ)) := by
  obtain ⟨s1, s2⟩ := hS 1 (by omega)
  obtain ⟨o1, o2⟩ := hO 1 (by omega)
  have s1 : σ.1 36 3 = (S 1).1 := s1
  have s2 : σ.1 36 4 = nI (S 1).2 := s2
  have ok : mOkP md_X8_putElement := ok_at 105 (by decide) rfl
  refine mC_of (md := md_X8_putElement) rfl (lt_at (by decide)) rfl ?_
  refine mGo_run (n := 400) ok rfl ?_
  refine mGo_callP ok rfl (by omega) (c_slotAt36 (d := d)) ?_
  refine mGo_run (n := 400) ok rfl ?_
  refine mGo_callP ok rfl (by omega) (c_isEmpty36 (d := d)) ?_
  rw [s1]
  by_cases he : (S 1).1 = -1
  · rw [if_pos he, if_pos he]
    refine mGo_if ok rfl (fun h1 => ?_) (fun h1 => ?_)
    · exact absurd h1 (by decide)
    · refine mGo_run (n := 400) ok rfl ?_
      exact mGo_ret ok rfl trivial (⟨rfl, rfl, Or.inr ⟨by decide, rfl⟩⟩)
  · rw [if_neg he, if_neg he]
    obtain ⟨t, ht, hty⟩ := o2.resolve_left (fun z => he z.1)
    refine mGo_if ok rfl (fun h1 => ?_) (fun h1 => ?_)
    · refine mGo_run (n := 400) ok rfl ?_
      refine mGo_callP ok rfl (by omega) (c_covers36 (d := d) s2 i 1) ?_
      cases hc : covB (S 1).2 i 1 with
      | false =>
        refine mGo_if ok rfl (fun h2 => ?_) (fun h2 => ?_)
        · refine mGo_run (n := 400) ok rfl ?_
          exact mGo_ret ok rfl trivial (⟨rfl, rfl, Or.inr ⟨by decide, rfl⟩⟩)
        · exact absurd rfl h2
      | true =>
        obtain ⟨a, c, rfl, hc1, hac⟩ := (qCov_iff o1).mp (covB_iff.mp hc)
        have : c = 1 := (nI_eq (a := c) (b := 1) (by omega) (by omega)).mp hc1.symm
        refine mGo_if ok rfl (fun h2 => ?_) (fun h2 => ?_)
        · exact absurd h2 (by decide)
        · refine mGo_run (n := 400) ok rfl ?_
          refine mGo_callV ok rfl (by omega) (c_write36 (d := d) o1 s2 (a := a) (by omega) ht (s1.trans hty) v) (fun τ hτ => ?_)
          refine mGo_run (n := 400) ok rfl ?_
          exact mGo_ret ok rfl trivial (⟨rfl, rfl, Or.inl ⟨t, a, ht, hty, rfl, by omega, hτ⟩⟩)
    · exact absurd rfl h1
theorem x_element36 (hO : sOk S) (hS : cSl σ S) (i : Int32) : mNP g l (d + 2) 106 [.ref 0, .int (nI 1), .int i] lk ex σ (.long (if (S 1).1 ≠ -1 ∧ covB (S 1).2 i 1 = true then rdV (S 1).1.toNatClampNeg (σ.2.1 37 i.toNatClampNeg) (σ.1 39 i.toNatClampNeg) (σ.2.2 38 i.toNatClampNeg) else -9223372036854775808)) := by
  obtain ⟨s1, s2⟩ := hS 1 (by omega)
  obtain ⟨o1, o2⟩ := hO 1 (by omega)
  have s1 : σ.1 36 3 = (S 1).1 := s1
  have s2 : σ.1 36 4 = nI (S 1).2 := s2
  have ok : mOkP md_X8_element := ok_at 106 (by decide) rfl
  refine mC_of (md := md_X8_element) rfl (lt_at (by decide)) rfl ?_
  refine mGo_run (n := 400) ok rfl ?_
  refine mGo_callP ok rfl (by omega) (c_slotAt36 (d := d)) ?_
  refine mGo_run (n := 400) ok rfl ?_
  refine mGo_callP ok rfl (by omega) (c_isEmpty36 (d := d)) ?_
  rw [s1]
  by_cases he : (S 1).1 = -1
  · rw [if_pos he, if_neg (fun z => z.1 he)]
    refine mGo_if ok rfl (fun h1 => ?_) (fun h1 => ?_)
    · exact absurd h1 (by decide)
    · refine mGo_run (n := 400) ok rfl ?_
      exact mGo_ret ok rfl trivial (⟨rfl, rfl, rfl⟩)
  · rw [if_neg he]
    obtain ⟨t, ht, hty⟩ := o2.resolve_left (fun z => he z.1)
    refine mGo_if ok rfl (fun h1 => ?_) (fun h1 => ?_)
    · refine mGo_run (n := 400) ok rfl ?_
      refine mGo_callP ok rfl (by omega) (c_covers36 (d := d) s2 i 1) ?_
      cases hc : covB (S 1).2 i 1 with
      | false =>
        rw [if_neg (fun z => by cases z.2)]
        refine mGo_if ok rfl (fun h2 => ?_) (fun h2 => ?_)
        · refine mGo_run (n := 400) ok rfl ?_
          exact mGo_ret ok rfl trivial (⟨rfl, rfl, rfl⟩)
        · exact absurd rfl h2
      | true =>
        obtain ⟨a, c, rfl, hc1, hac⟩ := (qCov_iff o1).mp (covB_iff.mp hc)
        have : c = 1 := (nI_eq (a := c) (b := 1) (by omega) (by omega)).mp hc1.symm
        rw [if_pos ⟨he, rfl⟩]
        refine mGo_if ok rfl (fun h2 => ?_) (fun h2 => ?_)
        · exact absurd h2 (by decide)
        · refine mGo_run (n := 400) ok rfl ?_
          refine mGo_callP ok rfl (by omega) (c_read36 (d := d) o1 s2 (a := a) (by omega) ht (s1.trans hty)) ?_
          refine mGo_run (n := 400) ok rfl ?_
          exact mGo_ret ok rfl trivial (⟨by rw [hty, nI_clamp (by omega), nI_clamp (by omega)], rfl, rfl⟩)
    · exact absurd rfl h1
theorem x_compute36 (hO : sOk S) (hS : cSl σ S) (hX : ∀ t a, (S 1).1 = nI t → t = 2 ∨ t = 3 → a < (S 1).2 → xE t (σ.1 39 a) (σ.2.2 38 a)) (i o op : Int32) : mNR g l (d + 2) 107 [.ref 0, .int (nI 1), .int i, .int o, .int op] lk ex σ (.int (if o = 0 ∨ o = 1 then (if (S 1).1 = -1 then -11 else if (S 1).1 = 2 ∨ (S 1).1 = 3 then (if covB (S 1).2 i 1 = true then 1 else -13) else -12) else -1)) (fun σ1 => (∃ t a, (t = 2 ∨ t = 3) ∧ (o = 0 ∨ o = 1) ∧ (S 1).1 = nI t ∧ i = nI a ∧ a < (S 1).2 ∧ opP 36 t a o op σ σ1) ∨ ((if o = 0 ∨ o = 1 then (if (S 1).1 = -1 then (-11 : Int32) else if (S 1).1 = 2 ∨ (S 1).1 = 3 then (if covB (S 1).2 i 1 = true then 1 else -13) else -12) else -1) ≠ 1 ∧ σ1 = σ)) := by
  obtain ⟨s1, s2⟩ := hS 1 (by omega)
  obtain ⟨o1, o2⟩ := hO 1 (by omega)
  have s1 : σ.1 36 3 = (S 1).1 := s1
  have s2 : σ.1 36 4 = nI (S 1).2 := s2
  have ok : mOkP md_X8_compute := ok_at 107 (by decide) rfl
  refine mC_of (md := md_X8_compute) rfl (lt_at (by decide)) rfl ?_
  have go : (o = 0 ∨ o = 1) → mGo g l (d + 2) md_X8_compute (SH lk ex).length (mTot (SH lk ex)) (23, [some (.ref 0), some (.int (nI 1)), some (.int i), some (.int o), some (.int op), some (.ref 36)], [], SH lk ex, σ) (fun r sp σ1 => r = some (.int (if o = 0 ∨ o = 1 then (if (S 1).1 = -1 then -11 else if (S 1).1 = 2 ∨ (S 1).1 = 3 then (if covB (S 1).2 i 1 = true then 1 else -13) else -12) else -1)) ∧ sp = SH lk ex ∧ ((∃ t a, (t = 2 ∨ t = 3) ∧ (o = 0 ∨ o = 1) ∧ (S 1).1 = nI t ∧ i = nI a ∧ a < (S 1).2 ∧ opP 36 t a o op σ σ1) ∨ ((if o = 0 ∨ o = 1 then (if (S 1).1 = -1 then (-11 : Int32) else if (S 1).1 = 2 ∨ (S 1).1 = 3 then (if covB (S 1).2 i 1 = true then 1 else -13) else -12) else -1) ≠ 1 ∧ σ1 = σ))) := by
    intro ho
    rw [if_pos ho]
    refine mGo_run (n := 400) ok rfl ?_
    refine mGo_callP ok rfl (by omega) (c_isEmpty36 (d := d)) ?_
    rw [s1]
    by_cases he : (S 1).1 = -1
    · rw [if_pos he, if_pos he]
      refine mGo_if ok rfl (fun h1 => ?_) (fun h1 => ?_)
      · exact absurd h1 (by decide)
      · refine mGo_run (n := 400) ok rfl ?_
        exact mGo_ret ok rfl trivial (⟨rfl, rfl, Or.inr ⟨by decide, rfl⟩⟩)
    · rw [if_neg he, if_neg he]
      obtain ⟨t, ht, hty⟩ := o2.resolve_left (fun z => he z.1)
      refine mGo_if ok rfl (fun h1 => ?_) (fun h1 => ?_)
      · refine mGo_run (n := 400) ok rfl ?_
        refine mGo_callP ok rfl (by omega) (c_holdsReals36 (d := d)) ?_
        rw [s1]
        by_cases hr : (S 1).1 = 2 ∨ (S 1).1 = 3
        · rw [if_pos hr, if_pos hr]
          have ht2 : t = 2 ∨ t = 3 := by
            rw [hty] at hr
            rcases hr with z | z
            · exact Or.inl ((nI_eq (a := t) (b := 2) (by omega) (by omega)).mp z)
            · exact Or.inr ((nI_eq (a := t) (b := 3) (by omega) (by omega)).mp z)
          refine mGo_if ok rfl (fun h2 => ?_) (fun h2 => ?_)
          · exact absurd h2 (by decide)
          · refine mGo_run (n := 400) ok rfl ?_
            refine mGo_callP ok rfl (by omega) (c_covers36 (d := d) s2 i 1) ?_
            cases hc : covB (S 1).2 i 1 with
            | false =>
              refine mGo_if ok rfl (fun h3 => ?_) (fun h3 => ?_)
              · refine mGo_run (n := 400) ok rfl ?_
                exact mGo_ret ok rfl trivial (⟨rfl, rfl, Or.inr ⟨by decide, rfl⟩⟩)
              · exact absurd rfl h3
            | true =>
              obtain ⟨a, c, rfl, hc1, hac⟩ := (qCov_iff o1).mp (covB_iff.mp hc)
              have : c = 1 := (nI_eq (a := c) (b := 1) (by omega) (by omega)).mp hc1.symm
              have hx := hX t a hty ht2 (by omega)
              refine mGo_if ok rfl (fun h3 => ?_) (fun h3 => ?_)
              · exact absurd h3 (by decide)
              · refine mGo_run (n := 400) ok rfl ?_
                refine mGo_if ok rfl (fun h4 => ?_) (fun h4 => ?_)
                · have h4 : o = 0 := h4
                  refine mGo_run (n := 400) ok rfl ?_
                  refine mGo_callV ok rfl (by omega) (c_divide36 (d := d) o1 s2 (a := a) (by omega) ht2 (s1.trans hty) op hx) (fun τ hτ => ?_)
                  refine mGo_run (n := 400) ok rfl ?_
                  exact mGo_ret ok rfl trivial (⟨rfl, rfl, Or.inl ⟨t, a, ht2, ho, hty, rfl, by omega, by unfold opP opE; rw [if_pos h4]; exact hτ⟩⟩)
                · have h4 : ¬ o = 0 := h4
                  refine mGo_run (n := 400) ok rfl ?_
                  refine mGo_callV ok rfl (by omega) (c_keepRemainder36 (d := d) o1 s2 (a := a) (by omega) ht2 (s1.trans hty) op hx) (fun τ hτ => ?_)
                  refine mGo_run (n := 400) ok rfl ?_
                  exact mGo_ret ok rfl trivial (⟨rfl, rfl, Or.inl ⟨t, a, ht2, ho, hty, rfl, by omega, by unfold opP opE; rw [if_neg h4]; exact hτ⟩⟩)
        · rw [if_neg hr, if_neg hr]
          refine mGo_if ok rfl (fun h2 => ?_) (fun h2 => ?_)
          · refine mGo_run (n := 400) ok rfl ?_
            exact mGo_ret ok rfl trivial (⟨rfl, rfl, Or.inr ⟨by decide, rfl⟩⟩)
          · exact absurd rfl h2
      · exact absurd rfl h1
  refine mGo_run (n := 400) ok rfl ?_
  refine mGo_callP ok rfl (by omega) (c_slotAt36 (d := d)) ?_
  refine mGo_run (n := 400) ok rfl ?_
  refine mGo_if ok rfl (fun h1 => ?_) (fun h1 => ?_)
  · exact go (Or.inl h1)
  · refine mGo_run (n := 400) ok rfl ?_
    refine mGo_if ok rfl (fun h2 => ?_) (fun h2 => ?_)
    · exact go (Or.inr h2)
    · have hn : ¬ (o = 0 ∨ o = 1) := fun z => z.elim h1 h2
      rw [if_neg hn]
      refine mGo_run (n := 400) ok rfl ?_
      exact mGo_ret ok rfl trivial (⟨rfl, rfl, Or.inr ⟨by decide, rfl⟩⟩)
theorem x_allocate40 (t z : Int32) : mNR g l (d + 2) 103 [.ref 0, .int (nI 2), .int t, .int z] lk ex σ (.int (if (0 ≤ t ∧ t ≤ 3) ∧ z ≤ 40 then (if z < 0 then -14 else z) else -1)) (fun σ1 => if ((0 ≤ t ∧ t ≤ 3) ∧ z ≤ 40) ∧ 0 ≤ z then alP 40 t z σ σ1 else σ1 = σ) := by
  have ok : mOkP md_X8_allocate := ok_at 103 (by decide) rfl
  refine mC_of (md := md_X8_allocate) rfl (lt_at (by decide)) rfl ?_
  have bad : ∀ L4 : Option Value, ¬ ((0 ≤ t ∧ t ≤ 3) ∧ z ≤ 40) → mGo g l (d + 2) md_X8_allocate (SH lk ex).length (mTot (SH lk ex)) (27, [some (.ref 0), some (.int (nI 2)), some (.int t), some (.int z), L4], [], SH lk ex, σ) (fun r sp σ1 => r = some (.int (if (0 ≤ t ∧ t ≤ 3) ∧ z ≤ 40 then (if z < 0 then -14 else z) else -1)) ∧ sp = SH lk ex ∧ (if ((0 ≤ t ∧ t ≤ 3) ∧ z ≤ 40) ∧ 0 ≤ z then alP 40 t z σ σ1 else σ1 = σ)) := by
    intro L4 hb
    rw [if_neg hb]
    refine mGo_run (n := 400) ok rfl ?_
    exact mGo_ret ok rfl trivial (⟨rfl, rfl, by rw [if_neg (fun y => hb y.1)]⟩)
  refine mGo_run (n := 400) ok rfl ?_
  refine mGo_callP ok rfl (by omega) (c_slotAt40 (d := d)) ?_
  refine mGo_run (n := 400) ok rfl ?_
  refine mGo_if ok rfl (fun h1 => ?_) (fun h1 => ?_)
  · exact bad _ (fun y => absurd h1 (Int32.not_lt.mpr y.1.1))
  · refine mGo_run (n := 400) ok rfl ?_
    refine mGo_if ok rfl (fun h2 => ?_) (fun h2 => ?_)
    · exact bad _ (fun y => absurd h2 (Int32.not_lt.mpr y.1.2))
    · refine mGo_run (n := 400) ok rfl ?_
      refine mGo_if ok rfl (fun h3 => ?_) (fun h3 => ?_)
      · have hg : (0 ≤ t ∧ t ≤ 3) ∧ z ≤ 40 := ⟨⟨Int32.not_lt.mp h1, Int32.not_lt.mp h2⟩, h3⟩
        rw [if_pos hg]
        refine mGo_run (n := 400) ok rfl ?_
        refine mGo_if ok rfl (fun h4 => ?_) (fun h4 => ?_)
        · rw [if_neg (Int32.not_lt.mpr h4)]
          refine mGo_run (n := 400) ok rfl ?_
          refine mGo_callV ok rfl (by omega) (c_fillAnew40 (d := d) t z) (fun τ hτ => ?_)
          refine mGo_run (n := 400) ok rfl ?_
          exact mGo_ret ok rfl trivial (⟨rfl, rfl, by dsimp only; rw [if_pos ⟨hg, h4⟩]; exact hτ⟩)
        · rw [if_pos (Int32.not_le.mp h4)]
          refine mGo_run (n := 400) ok rfl ?_
          exact mGo_ret ok rfl trivial (⟨rfl, rfl, by dsimp only; rw [if_neg (fun y => h4 y.2)]⟩)
      · exact bad _ (fun y => h3 y.2)
theorem x_release40 : mNR g l (d + 2) 104 [.ref 0, .int (nI 2)] lk ex σ (.int (if σ.1 40 3 = -1 then 0 else 1)) (fun σ1 => σ1 = mWI (mWI σ 40 3 (-1)) 40 4 0) := by
  have ok : mOkP md_X8_release := ok_at 104 (by decide) rfl
  refine mC_of (md := md_X8_release) rfl (lt_at (by decide)) rfl ?_
  refine mGo_run (n := 400) ok rfl ?_
  refine mGo_callP ok rfl (by omega) (c_slotAt40 (d := d)) ?_
  refine mGo_run (n := 400) ok rfl ?_
  refine mGo_callR ok rfl (by omega) (c_drop40 (d := d)) (fun τ hτ => ?_)
  by_cases h : σ.1 40 3 = -1
  · rw [if_pos h]
    refine mGo_if ok rfl (fun h1 => ?_) (fun h1 => ?_)
    · refine mGo_run (n := 400) ok rfl ?_
      exact mGo_ret ok rfl trivial (⟨rfl, rfl, hτ⟩)
    · exact absurd rfl h1
  · rw [if_neg h]
    refine mGo_if ok rfl (fun h1 => ?_) (fun h1 => ?_)
    · exact absurd h1 (by decide)
    · refine mGo_run (n := 400) ok rfl ?_
      exact mGo_ret ok rfl trivial (⟨rfl, rfl, hτ⟩)
theorem x_putElement40 (hO : sOk S) (hS : cSl σ S) (i : Int32) (v : Int64) : mNR g l (d + 2) 105 [.ref 0, .int (nI 2), .int i, .long v] lk ex σ (.int (if (S 2).1 = -1 then -11 else if covB (S 2).2 i 1 = true then 1 else -13)) (fun σ1 => (∃ t a, t < 4 ∧ (S 2).1 = nI t ∧ i = nI a ∧ a < (S 2).2 ∧ wrP 40 t a v σ σ1) ∨ ((if (S 2).1 = -1 then (-11 : Int32) else if covB (S 2).2 i 1 = true then 1 else -13) ≠ 1 ∧ σ1 = σ)) := by
  obtain ⟨s1, s2⟩ := hS 2 (by omega)
  obtain ⟨o1, o2⟩ := hO 2 (by omega)
  have s1 : σ.1 40 3 = (S 2).1 := s1
  have s2 : σ.1 40 4 = nI (S 2).2 := s2
  have ok : mOkP md_X8_putElement := ok_at 105 (by decide) rfl
  refine mC_of (md := md_X8_putElement) rfl (lt_at (by decide)) rfl ?_
  refine mGo_run (n := 400) ok rfl ?_
  refine mGo_callP ok rfl (by omega) (c_slotAt40 (d := d)) ?_
  refine mGo_run (n := 400) ok rfl ?_
  refine mGo_callP ok rfl (by omega) (c_isEmpty40 (d := d)) ?_
  rw [s1]
  by_cases he : (S 2).1 = -1
  · rw [if_pos he, if_pos he]
    refine mGo_if ok rfl (fun h1 => ?_) (fun h1 => ?_)
    · exact absurd h1 (by decide)
    · refine mGo_run (n := 400) ok rfl ?_
      exact mGo_ret ok rfl trivial (⟨rfl, rfl, Or.inr ⟨by decide, rfl⟩⟩)
  · rw [if_neg he, if_neg he]
    obtain ⟨t, ht, hty⟩ := o2.resolve_left (fun z => he z.1)
    refine mGo_if ok rfl (fun h1 => ?_) (fun h1 => ?_)
    · refine mGo_run (n := 400) ok rfl ?_
      refine mGo_callP ok rfl (by omega) (c_covers40 (d := d) s2 i 1) ?_
      cases hc : covB (S 2).2 i 1 with
      | false =>
        refine mGo_if ok rfl (fun h2 => ?_) (fun h2 => ?_)
        · refine mGo_run (n := 400) ok rfl ?_
          exact mGo_ret ok rfl trivial (⟨rfl, rfl, Or.inr ⟨by decide, rfl⟩⟩)
        · exact absurd rfl h2
      | true =>
        obtain ⟨a, c, rfl, hc1, hac⟩ := (qCov_iff o1).mp (covB_iff.mp hc)
        have : c = 1 := (nI_eq (a := c) (b := 1) (by omega) (by omega)).mp hc1.symm
        refine mGo_if ok rfl (fun h2 => ?_) (fun h2 => ?_)
        · exact absurd h2 (by decide)
        · refine mGo_run (n := 400) ok rfl ?_
          refine mGo_callV ok rfl (by omega) (c_write40 (d := d) o1 s2 (a := a) (by omega) ht (s1.trans hty) v) (fun τ hτ => ?_)
          refine mGo_run (n := 400) ok rfl ?_
          exact mGo_ret ok rfl trivial (⟨rfl, rfl, Or.inl ⟨t, a, ht, hty, rfl, by omega, hτ⟩⟩)
    · exact absurd rfl h1
theorem x_element40 (hO : sOk S) (hS : cSl σ S) (i : Int32) : mNP g l (d + 2) 106 [.ref 0, .int (nI 2), .int i] lk ex σ (.long (if (S 2).1 ≠ -1 ∧ covB (S 2).2 i 1 = true then rdV (S 2).1.toNatClampNeg (σ.2.1 41 i.toNatClampNeg) (σ.1 43 i.toNatClampNeg) (σ.2.2 42 i.toNatClampNeg) else -9223372036854775808)) := by
  obtain ⟨s1, s2⟩ := hS 2 (by omega)
  obtain ⟨o1, o2⟩ := hO 2 (by omega)
  have s1 : σ.1 40 3 = (S 2).1 := s1
  have s2 : σ.1 40 4 = nI (S 2).2 := s2
  have ok : mOkP md_X8_element := ok_at 106 (by decide) rfl
  refine mC_of (md := md_X8_element) rfl (lt_at (by decide)) rfl ?_
  refine mGo_run (n := 400) ok rfl ?_
  refine mGo_callP ok rfl (by omega) (c_slotAt40 (d := d)) ?_
  refine mGo_run (n := 400) ok rfl ?_
  refine mGo_callP ok rfl (by omega) (c_isEmpty40 (d := d)) ?_
  rw [s1]
  by_cases he : (S 2).1 = -1
  · rw [if_pos he, if_neg (fun z => z.1 he)]
    refine mGo_if ok rfl (fun h1 => ?_) (fun h1 => ?_)
    · exact absurd h1 (by decide)
    · refine mGo_run (n := 400) ok rfl ?_
      exact mGo_ret ok rfl trivial (⟨rfl, rfl, rfl⟩)
  · rw [if_neg he]
    obtain ⟨t, ht, hty⟩ := o2.resolve_left (fun z => he z.1)
    refine mGo_if ok rfl (fun h1 => ?_) (fun h1 => ?_)
    · refine mGo_run (n := 400) ok rfl ?_
      refine mGo_callP ok rfl (by omega) (c_covers40 (d := d) s2 i 1) ?_
      cases hc : covB (S 2).2 i 1 with
      | false =>
        rw [if_neg (fun z => by cases z.2)]
        refine mGo_if ok rfl (fun h2 => ?_) (fun h2 => ?_)
        · refine mGo_run (n := 400) ok rfl ?_
          exact mGo_ret ok rfl trivial (⟨rfl, rfl, rfl⟩)
        · exact absurd rfl h2
      | true =>
        obtain ⟨a, c, rfl, hc1, hac⟩ := (qCov_iff o1).mp (covB_iff.mp hc)
        have : c = 1 := (nI_eq (a := c) (b := 1) (by omega) (by omega)).mp hc1.symm
        rw [if_pos ⟨he, rfl⟩]
        refine mGo_if ok rfl (fun h2 => ?_) (fun h2 => ?_)
        · exact absurd h2 (by decide)
        · refine mGo_run (n := 400) ok rfl ?_
          refine mGo_callP ok rfl (by omega) (c_read40 (d := d) o1 s2 (a := a) (by omega) ht (s1.trans hty)) ?_
          refine mGo_run (n := 400) ok rfl ?_
          exact mGo_ret ok rfl trivial (⟨by rw [hty, nI_clamp (by omega), nI_clamp (by omega)], rfl, rfl⟩)
    · exact absurd rfl h1
theorem x_compute40 (hO : sOk S) (hS : cSl σ S) (hX : ∀ t a, (S 2).1 = nI t → t = 2 ∨ t = 3 → a < (S 2).2 → xE t (σ.1 43 a) (σ.2.2 42 a)) (i o op : Int32) : mNR g l (d + 2) 107 [.ref 0, .int (nI 2), .int i, .int o, .int op] lk ex σ (.int (if o = 0 ∨ o = 1 then (if (S 2).1 = -1 then -11 else if (S 2).1 = 2 ∨ (S 2).1 = 3 then (if covB (S 2).2 i 1 = true then 1 else -13) else -12) else -1)) (fun σ1 => (∃ t a, (t = 2 ∨ t = 3) ∧ (o = 0 ∨ o = 1) ∧ (S 2).1 = nI t ∧ i = nI a ∧ a < (S 2).2 ∧ opP 40 t a o op σ σ1) ∨ ((if o = 0 ∨ o = 1 then (if (S 2).1 = -1 then (-11 : Int32) else if (S 2).1 = 2 ∨ (S 2).1 = 3 then (if covB (S 2).2 i 1 = true then 1 else -13) else -12) else -1) ≠ 1 ∧ σ1 = σ)) := by
  obtain ⟨s1, s2⟩ := hS 2 (by omega)
  obtain ⟨o1, o2⟩ := hO 2 (by omega)
  have s1 : σ.1 40 3 = (S 2).1 := s1
  have s2 : σ.1 40 4 = nI (S 2).2 := s2
  have ok : mOkP md_X8_compute := ok_at 107 (by decide) rfl
  refine mC_of (md := md_X8_compute) rfl (lt_at (by decide)) rfl ?_
  have go : (o = 0 ∨ o = 1) → mGo g l (d + 2) md_X8_compute (SH lk ex).length (mTot (SH lk ex)) (23, [some (.ref 0), some (.int (nI 2)), some (.int i), some (.int o), some (.int op), some (.ref 40)], [], SH lk ex, σ) (fun r sp σ1 => r = some (.int (if o = 0 ∨ o = 1 then (if (S 2).1 = -1 then -11 else if (S 2).1 = 2 ∨ (S 2).1 = 3 then (if covB (S 2).2 i 1 = true then 1 else -13) else -12) else -1)) ∧ sp = SH lk ex ∧ ((∃ t a, (t = 2 ∨ t = 3) ∧ (o = 0 ∨ o = 1) ∧ (S 2).1 = nI t ∧ i = nI a ∧ a < (S 2).2 ∧ opP 40 t a o op σ σ1) ∨ ((if o = 0 ∨ o = 1 then (if (S 2).1 = -1 then (-11 : Int32) else if (S 2).1 = 2 ∨ (S 2).1 = 3 then (if covB (S 2).2 i 1 = true then 1 else -13) else -12) else -1) ≠ 1 ∧ σ1 = σ))) := by
    intro ho
    rw [if_pos ho]
    refine mGo_run (n := 400) ok rfl ?_
    refine mGo_callP ok rfl (by omega) (c_isEmpty40 (d := d)) ?_
    rw [s1]
    by_cases he : (S 2).1 = -1
    · rw [if_pos he, if_pos he]
      refine mGo_if ok rfl (fun h1 => ?_) (fun h1 => ?_)
      · exact absurd h1 (by decide)
      · refine mGo_run (n := 400) ok rfl ?_
        exact mGo_ret ok rfl trivial (⟨rfl, rfl, Or.inr ⟨by decide, rfl⟩⟩)
    · rw [if_neg he, if_neg he]
      obtain ⟨t, ht, hty⟩ := o2.resolve_left (fun z => he z.1)
      refine mGo_if ok rfl (fun h1 => ?_) (fun h1 => ?_)
      · refine mGo_run (n := 400) ok rfl ?_
        refine mGo_callP ok rfl (by omega) (c_holdsReals40 (d := d)) ?_
        rw [s1]
        by_cases hr : (S 2).1 = 2 ∨ (S 2).1 = 3
        · rw [if_pos hr, if_pos hr]
          have ht2 : t = 2 ∨ t = 3 := by
            rw [hty] at hr
            rcases hr with z | z
            · exact Or.inl ((nI_eq (a := t) (b := 2) (by omega) (by omega)).mp z)
            · exact Or.inr ((nI_eq (a := t) (b := 3) (by omega) (by omega)).mp z)
          refine mGo_if ok rfl (fun h2 => ?_) (fun h2 => ?_)
          · exact absurd h2 (by decide)
          · refine mGo_run (n := 400) ok rfl ?_
            refine mGo_callP ok rfl (by omega) (c_covers40 (d := d) s2 i 1) ?_
            cases hc : covB (S 2).2 i 1 with
            | false =>
              refine mGo_if ok rfl (fun h3 => ?_) (fun h3 => ?_)
              · refine mGo_run (n := 400) ok rfl ?_
                exact mGo_ret ok rfl trivial (⟨rfl, rfl, Or.inr ⟨by decide, rfl⟩⟩)
              · exact absurd rfl h3
            | true =>
              obtain ⟨a, c, rfl, hc1, hac⟩ := (qCov_iff o1).mp (covB_iff.mp hc)
              have : c = 1 := (nI_eq (a := c) (b := 1) (by omega) (by omega)).mp hc1.symm
              have hx := hX t a hty ht2 (by omega)
              refine mGo_if ok rfl (fun h3 => ?_) (fun h3 => ?_)
              · exact absurd h3 (by decide)
              · refine mGo_run (n := 400) ok rfl ?_
                refine mGo_if ok rfl (fun h4 => ?_) (fun h4 => ?_)
                · have h4 : o = 0 := h4
                  refine mGo_run (n := 400) ok rfl ?_
                  refine mGo_callV ok rfl (by omega) (c_divide40 (d := d) o1 s2 (a := a) (by omega) ht2 (s1.trans hty) op hx) (fun τ hτ => ?_)
                  refine mGo_run (n := 400) ok rfl ?_
                  exact mGo_ret ok rfl trivial (⟨rfl, rfl, Or.inl ⟨t, a, ht2, ho, hty, rfl, by omega, by unfold opP opE; rw [if_pos h4]; exact hτ⟩⟩)
                · have h4 : ¬ o = 0 := h4
                  refine mGo_run (n := 400) ok rfl ?_
                  refine mGo_callV ok rfl (by omega) (c_keepRemainder40 (d := d) o1 s2 (a := a) (by omega) ht2 (s1.trans hty) op hx) (fun τ hτ => ?_)
                  refine mGo_run (n := 400) ok rfl ?_
                  exact mGo_ret ok rfl trivial (⟨rfl, rfl, Or.inl ⟨t, a, ht2, ho, hty, rfl, by omega, by unfold opP opE; rw [if_neg h4]; exact hτ⟩⟩)
        · rw [if_neg hr, if_neg hr]
          refine mGo_if ok rfl (fun h2 => ?_) (fun h2 => ?_)
          · refine mGo_run (n := 400) ok rfl ?_
            exact mGo_ret ok rfl trivial (⟨rfl, rfl, Or.inr ⟨by decide, rfl⟩⟩)
          · exact absurd rfl h2
      · exact absurd rfl h1
  refine mGo_run (n := 400) ok rfl ?_
  refine mGo_callP ok rfl (by omega) (c_slotAt40 (d := d)) ?_
  refine mGo_run (n := 400) ok rfl ?_
  refine mGo_if ok rfl (fun h1 => ?_) (fun h1 => ?_)
  · exact go (Or.inl h1)
  · refine mGo_run (n := 400) ok rfl ?_
    refine mGo_if ok rfl (fun h2 => ?_) (fun h2 => ?_)
    · exact go (Or.inr h2)
    · have hn : ¬ (o = 0 ∨ o = 1) := fun z => z.elim h1 h2
      rw [if_neg hn]
      refine mGo_run (n := 400) ok rfl ?_
      exact mGo_ret ok rfl trivial (⟨rfl, rfl, Or.inr ⟨by decide, rfl⟩⟩)
theorem x_allocate44 (t z : Int32) : mNR g l (d + 2) 103 [.ref 0, .int (nI 3), .int t, .int z] lk ex σ (.int (if (0 ≤ t ∧ t ≤ 3) ∧ z ≤ 40 then (if z < 0 then -14 else z) else -1)) (fun σ1 => if ((0 ≤ t ∧ t ≤ 3) ∧ z ≤ 40) ∧ 0 ≤ z then alP 44 t z σ σ1 else σ1 = σ) := by
  have ok : mOkP md_X8_allocate := ok_at 103 (by decide) rfl
  refine mC_of (md := md_X8_allocate) rfl (lt_at (by decide)) rfl ?_
  have bad : ∀ L4 : Option Value, ¬ ((0 ≤ t ∧ t ≤ 3) ∧ z ≤ 40) → mGo g l (d + 2) md_X8_allocate (SH lk ex).length (mTot (SH lk ex)) (27, [some (.ref 0), some (.int (nI 3)), some (.int t), some (.int z), L4], [], SH lk ex, σ) (fun r sp σ1 => r = some (.int (if (0 ≤ t ∧ t ≤ 3) ∧ z ≤ 40 then (if z < 0 then -14 else z) else -1)) ∧ sp = SH lk ex ∧ (if ((0 ≤ t ∧ t ≤ 3) ∧ z ≤ 40) ∧ 0 ≤ z then alP 44 t z σ σ1 else σ1 = σ)) := by
    intro L4 hb
    rw [if_neg hb]
    refine mGo_run (n := 400) ok rfl ?_
    exact mGo_ret ok rfl trivial (⟨rfl, rfl, by rw [if_neg (fun y => hb y.1)]⟩)
  refine mGo_run (n := 400) ok rfl ?_
  refine mGo_callP ok rfl (by omega) (c_slotAt44 (d := d)) ?_
  refine mGo_run (n := 400) ok rfl ?_
  refine mGo_if ok rfl (fun h1 => ?_) (fun h1 => ?_)
  · exact bad _ (fun y => absurd h1 (Int32.not_lt.mpr y.1.1))
  · refine mGo_run (n := 400) ok rfl ?_
    refine mGo_if ok rfl (fun h2 => ?_) (fun h2 => ?_)
    · exact bad _ (fun y => absurd h2 (Int32.not_lt.mpr y.1.2))
    · refine mGo_run (n := 400) ok rfl ?_
      refine mGo_if ok rfl (fun h3 => ?_) (fun h3 => ?_)
      · have hg : (0 ≤ t ∧ t ≤ 3) ∧ z ≤ 40 := ⟨⟨Int32.not_lt.mp h1, Int32.not_lt.mp h2⟩, h3⟩
        rw [if_pos hg]
        refine mGo_run (n := 400) ok rfl ?_
        refine mGo_if ok rfl (fun h4 => ?_) (fun h4 => ?_)
        · rw [if_neg (Int32.not_lt.mpr h4)]
          refine mGo_run (n := 400) ok rfl ?_
          refine mGo_callV ok rfl (by omega) (c_fillAnew44 (d := d) t z) (fun τ hτ => ?_)
          refine mGo_run (n := 400) ok rfl ?_
          exact mGo_ret ok rfl trivial (⟨rfl, rfl, by dsimp only; rw [if_pos ⟨hg, h4⟩]; exact hτ⟩)
        · rw [if_pos (Int32.not_le.mp h4)]
          refine mGo_run (n := 400) ok rfl ?_
          exact mGo_ret ok rfl trivial (⟨rfl, rfl, by dsimp only; rw [if_neg (fun y => h4 y.2)]⟩)
      · exact bad _ (fun y => h3 y.2)
theorem x_release44 : mNR g l (d + 2) 104 [.ref 0, .int (nI 3)] lk ex σ (.int (if σ.1 44 3 = -1 then 0 else 1)) (fun σ1 => σ1 = mWI (mWI σ 44 3 (-1)) 44 4 0) := by
  have ok : mOkP md_X8_release := ok_at 104 (by decide) rfl
  refine mC_of (md := md_X8_release) rfl (lt_at (by decide)) rfl ?_
  refine mGo_run (n := 400) ok rfl ?_
  refine mGo_callP ok rfl (by omega) (c_slotAt44 (d := d)) ?_
  refine mGo_run (n := 400) ok rfl ?_
  refine mGo_callR ok rfl (by omega) (c_drop44 (d := d)) (fun τ hτ => ?_)
  by_cases h : σ.1 44 3 = -1
  · rw [if_pos h]
    refine mGo_if ok rfl (fun h1 => ?_) (fun h1 => ?_)
    · refine mGo_run (n := 400) ok rfl ?_
      exact mGo_ret ok rfl trivial (⟨rfl, rfl, hτ⟩)
    · exact absurd rfl h1
  · rw [if_neg h]
    refine mGo_if ok rfl (fun h1 => ?_) (fun h1 => ?_)
    · exact absurd h1 (by decide)
    · refine mGo_run (n := 400) ok rfl ?_
      exact mGo_ret ok rfl trivial (⟨rfl, rfl, hτ⟩)
theorem x_putElement44 (hO : sOk S) (hS : cSl σ S) (i : Int32) (v : Int64) : mNR g l (d + 2) 105 [.ref 0, .int (nI 3), .int i, .long v] lk ex σ (.int (if (S 3).1 = -1 then -11 else if covB (S 3).2 i 1 = true then 1 else -13)) (fun σ1 => (∃ t a, t < 4 ∧ (S 3).1 = nI t ∧ i = nI a ∧ a < (S 3).2 ∧ wrP 44 t a v σ σ1) ∨ ((if (S 3).1 = -1 then (-11 : Int32) else if covB (S 3).2 i 1 = true then 1 else -13) ≠ 1 ∧ σ1 = σ)) := by
  obtain ⟨s1, s2⟩ := hS 3 (by omega)
  obtain ⟨o1, o2⟩ := hO 3 (by omega)
  have s1 : σ.1 44 3 = (S 3).1 := s1
  have s2 : σ.1 44 4 = nI (S 3).2 := s2
  have ok : mOkP md_X8_putElement := ok_at 105 (by decide) rfl
  refine mC_of (md := md_X8_putElement) rfl (lt_at (by decide)) rfl ?_
  refine mGo_run (n := 400) ok rfl ?_
  refine mGo_callP ok rfl (by omega) (c_slotAt44 (d := d)) ?_
  refine mGo_run (n := 400) ok rfl ?_
  refine mGo_callP ok rfl (by omega) (c_isEmpty44 (d := d)) ?_
  rw [s1]
  by_cases he : (S 3).1 = -1
  · rw [if_pos he, if_pos he]
    refine mGo_if ok rfl (fun h1 => ?_) (fun h1 => ?_)
    · exact absurd h1 (by decide)
    · refine mGo_run (n := 400) ok rfl ?_
      exact mGo_ret ok rfl trivial (⟨rfl, rfl, Or.inr ⟨by decide, rfl⟩⟩)
  · rw [if_neg he, if_neg he]
    obtain ⟨t, ht, hty⟩ := o2.resolve_left (fun z => he z.1)
    refine mGo_if ok rfl (fun h1 => ?_) (fun h1 => ?_)
    · refine mGo_run (n := 400) ok rfl ?_
      refine mGo_callP ok rfl (by omega) (c_covers44 (d := d) s2 i 1) ?_
      cases hc : covB (S 3).2 i 1 with
      | false =>
        refine mGo_if ok rfl (fun h2 => ?_) (fun h2 => ?_)
        · refine mGo_run (n := 400) ok rfl ?_
          exact mGo_ret ok rfl trivial (⟨rfl, rfl, Or.inr ⟨by decide, rfl⟩⟩)
        · exact absurd rfl h2
      | true =>
        obtain ⟨a, c, rfl, hc1, hac⟩ := (qCov_iff o1).mp (covB_iff.mp hc)
        have : c = 1 := (nI_eq (a := c) (b := 1) (by omega) (by omega)).mp hc1.symm
        refine mGo_if ok rfl (fun h2 => ?_) (fun h2 => ?_)
        · exact absurd h2 (by decide)
        · refine mGo_run (n := 400) ok rfl ?_
          refine mGo_callV ok rfl (by omega) (c_write44 (d := d) o1 s2 (a := a) (by omega) ht (s1.trans hty) v) (fun τ hτ => ?_)
          refine mGo_run (n := 400) ok rfl ?_
          exact mGo_ret ok rfl trivial (⟨rfl, rfl, Or.inl ⟨t, a, ht, hty, rfl, by omega, hτ⟩⟩)
    · exact absurd rfl h1
theorem x_element44 (hO : sOk S) (hS : cSl σ S) (i : Int32) : mNP g l (d + 2) 106 [.ref 0, .int (nI 3), .int i] lk ex σ (.long (if (S 3).1 ≠ -1 ∧ covB (S 3).2 i 1 = true then rdV (S 3).1.toNatClampNeg (σ.2.1 45 i.toNatClampNeg) (σ.1 47 i.toNatClampNeg) (σ.2.2 46 i.toNatClampNeg) else -9223372036854775808)) := by
  obtain ⟨s1, s2⟩ := hS 3 (by omega)
  obtain ⟨o1, o2⟩ := hO 3 (by omega)
  have s1 : σ.1 44 3 = (S 3).1 := s1
  have s2 : σ.1 44 4 = nI (S 3).2 := s2
  have ok : mOkP md_X8_element := ok_at 106 (by decide) rfl
  refine mC_of (md := md_X8_element) rfl (lt_at (by decide)) rfl ?_
  refine mGo_run (n := 400) ok rfl ?_
  refine mGo_callP ok rfl (by omega) (c_slotAt44 (d := d)) ?_
  refine mGo_run (n := 400) ok rfl ?_
  refine mGo_callP ok rfl (by omega) (c_isEmpty44 (d := d)) ?_
  rw [s1]
  by_cases he : (S 3).1 = -1
  · rw [if_pos he, if_neg (fun z => z.1 he)]
    refine mGo_if ok rfl (fun h1 => ?_) (fun h1 => ?_)
    · exact absurd h1 (by decide)
    · refine mGo_run (n := 400) ok rfl ?_
      exact mGo_ret ok rfl trivial (⟨rfl, rfl, rfl⟩)
  · rw [if_neg he]
    obtain ⟨t, ht, hty⟩ := o2.resolve_left (fun z => he z.1)
    refine mGo_if ok rfl (fun h1 => ?_) (fun h1 => ?_)
    · refine mGo_run (n := 400) ok rfl ?_
      refine mGo_callP ok rfl (by omega) (c_covers44 (d := d) s2 i 1) ?_
      cases hc : covB (S 3).2 i 1 with
      | false =>
        rw [if_neg (fun z => by cases z.2)]
        refine mGo_if ok rfl (fun h2 => ?_) (fun h2 => ?_)
        · refine mGo_run (n := 400) ok rfl ?_
          exact mGo_ret ok rfl trivial (⟨rfl, rfl, rfl⟩)
        · exact absurd rfl h2
      | true =>
        obtain ⟨a, c, rfl, hc1, hac⟩ := (qCov_iff o1).mp (covB_iff.mp hc)
        have : c = 1 := (nI_eq (a := c) (b := 1) (by omega) (by omega)).mp hc1.symm
        rw [if_pos ⟨he, rfl⟩]
        refine mGo_if ok rfl (fun h2 => ?_) (fun h2 => ?_)
        · exact absurd h2 (by decide)
        · refine mGo_run (n := 400) ok rfl ?_
          refine mGo_callP ok rfl (by omega) (c_read44 (d := d) o1 s2 (a := a) (by omega) ht (s1.trans hty)) ?_
          refine mGo_run (n := 400) ok rfl ?_
          exact mGo_ret ok rfl trivial (⟨by rw [hty, nI_clamp (by omega), nI_clamp (by omega)], rfl, rfl⟩)
    · exact absurd rfl h1
theorem x_compute44 (hO : sOk S) (hS : cSl σ S) (hX : ∀ t a, (S 3).1 = nI t → t = 2 ∨ t = 3 → a < (S 3).2 → xE t (σ.1 47 a) (σ.2.2 46 a)) (i o op : Int32) : mNR g l (d + 2) 107 [.ref 0, .int (nI 3), .int i, .int o, .int op] lk ex σ (.int (if o = 0 ∨ o = 1 then (if (S 3).1 = -1 then -11 else if (S 3).1 = 2 ∨ (S 3).1 = 3 then (if covB (S 3).2 i 1 = true then 1 else -13) else -12) else -1)) (fun σ1 => (∃ t a, (t = 2 ∨ t = 3) ∧ (o = 0 ∨ o = 1) ∧ (S 3).1 = nI t ∧ i = nI a ∧ a < (S 3).2 ∧ opP 44 t a o op σ σ1) ∨ ((if o = 0 ∨ o = 1 then (if (S 3).1 = -1 then (-11 : Int32) else if (S 3).1 = 2 ∨ (S 3).1 = 3 then (if covB (S 3).2 i 1 = true then 1 else -13) else -12) else -1) ≠ 1 ∧ σ1 = σ)) := by
  obtain ⟨s1, s2⟩ := hS 3 (by omega)
  obtain ⟨o1, o2⟩ := hO 3 (by omega)
  have s1 : σ.1 44 3 = (S 3).1 := s1
  have s2 : σ.1 44 4 = nI (S 3).2 := s2
  have ok : mOkP md_X8_compute := ok_at 107 (by decide) rfl
  refine mC_of (md := md_X8_compute) rfl (lt_at (by decide)) rfl ?_
  have go : (o = 0 ∨ o = 1) → mGo g l (d + 2) md_X8_compute (SH lk ex).length (mTot (SH lk ex)) (23, [some (.ref 0), some (.int (nI 3)), some (.int i), some (.int o), some (.int op), some (.ref 44)], [], SH lk ex, σ) (fun r sp σ1 => r = some (.int (if o = 0 ∨ o = 1 then (if (S 3).1 = -1 then -11 else if (S 3).1 = 2 ∨ (S 3).1 = 3 then (if covB (S 3).2 i 1 = true then 1 else -13) else -12) else -1)) ∧ sp = SH lk ex ∧ ((∃ t a, (t = 2 ∨ t = 3) ∧ (o = 0 ∨ o = 1) ∧ (S 3).1 = nI t ∧ i = nI a ∧ a < (S 3).2 ∧ opP 44 t a o op σ σ1) ∨ ((if o = 0 ∨ o = 1 then (if (S 3).1 = -1 then (-11 : Int32) else if (S 3).1 = 2 ∨ (S 3).1 = 3 then (if covB (S 3).2 i 1 = true then 1 else -13) else -12) else -1) ≠ 1 ∧ σ1 = σ))) := by
    intro ho
    rw [if_pos ho]
    refine mGo_run (n := 400) ok rfl ?_
    refine mGo_callP ok rfl (by omega) (c_isEmpty44 (d := d)) ?_
    rw [s1]
    by_cases he : (S 3).1 = -1
    · rw [if_pos he, if_pos he]
      refine mGo_if ok rfl (fun h1 => ?_) (fun h1 => ?_)
      · exact absurd h1 (by decide)
      · refine mGo_run (n := 400) ok rfl ?_
        exact mGo_ret ok rfl trivial (⟨rfl, rfl, Or.inr ⟨by decide, rfl⟩⟩)
    · rw [if_neg he, if_neg he]
      obtain ⟨t, ht, hty⟩ := o2.resolve_left (fun z => he z.1)
      refine mGo_if ok rfl (fun h1 => ?_) (fun h1 => ?_)
      · refine mGo_run (n := 400) ok rfl ?_
        refine mGo_callP ok rfl (by omega) (c_holdsReals44 (d := d)) ?_
        rw [s1]
        by_cases hr : (S 3).1 = 2 ∨ (S 3).1 = 3
        · rw [if_pos hr, if_pos hr]
          have ht2 : t = 2 ∨ t = 3 := by
            rw [hty] at hr
            rcases hr with z | z
            · exact Or.inl ((nI_eq (a := t) (b := 2) (by omega) (by omega)).mp z)
            · exact Or.inr ((nI_eq (a := t) (b := 3) (by omega) (by omega)).mp z)
          refine mGo_if ok rfl (fun h2 => ?_) (fun h2 => ?_)
          · exact absurd h2 (by decide)
          · refine mGo_run (n := 400) ok rfl ?_
            refine mGo_callP ok rfl (by omega) (c_covers44 (d := d) s2 i 1) ?_
            cases hc : covB (S 3).2 i 1 with
            | false =>
              refine mGo_if ok rfl (fun h3 => ?_) (fun h3 => ?_)
              · refine mGo_run (n := 400) ok rfl ?_
                exact mGo_ret ok rfl trivial (⟨rfl, rfl, Or.inr ⟨by decide, rfl⟩⟩)
              · exact absurd rfl h3
            | true =>
              obtain ⟨a, c, rfl, hc1, hac⟩ := (qCov_iff o1).mp (covB_iff.mp hc)
              have : c = 1 := (nI_eq (a := c) (b := 1) (by omega) (by omega)).mp hc1.symm
              have hx := hX t a hty ht2 (by omega)
              refine mGo_if ok rfl (fun h3 => ?_) (fun h3 => ?_)
              · exact absurd h3 (by decide)
              · refine mGo_run (n := 400) ok rfl ?_
                refine mGo_if ok rfl (fun h4 => ?_) (fun h4 => ?_)
                · have h4 : o = 0 := h4
                  refine mGo_run (n := 400) ok rfl ?_
                  refine mGo_callV ok rfl (by omega) (c_divide44 (d := d) o1 s2 (a := a) (by omega) ht2 (s1.trans hty) op hx) (fun τ hτ => ?_)
                  refine mGo_run (n := 400) ok rfl ?_
                  exact mGo_ret ok rfl trivial (⟨rfl, rfl, Or.inl ⟨t, a, ht2, ho, hty, rfl, by omega, by unfold opP opE; rw [if_pos h4]; exact hτ⟩⟩)
                · have h4 : ¬ o = 0 := h4
                  refine mGo_run (n := 400) ok rfl ?_
                  refine mGo_callV ok rfl (by omega) (c_keepRemainder44 (d := d) o1 s2 (a := a) (by omega) ht2 (s1.trans hty) op hx) (fun τ hτ => ?_)
                  refine mGo_run (n := 400) ok rfl ?_
                  exact mGo_ret ok rfl trivial (⟨rfl, rfl, Or.inl ⟨t, a, ht2, ho, hty, rfl, by omega, by unfold opP opE; rw [if_neg h4]; exact hτ⟩⟩)
        · rw [if_neg hr, if_neg hr]
          refine mGo_if ok rfl (fun h2 => ?_) (fun h2 => ?_)
          · refine mGo_run (n := 400) ok rfl ?_
            exact mGo_ret ok rfl trivial (⟨rfl, rfl, Or.inr ⟨by decide, rfl⟩⟩)
          · exact absurd rfl h2
      · exact absurd rfl h1
  refine mGo_run (n := 400) ok rfl ?_
  refine mGo_callP ok rfl (by omega) (c_slotAt44 (d := d)) ?_
  refine mGo_run (n := 400) ok rfl ?_
  refine mGo_if ok rfl (fun h1 => ?_) (fun h1 => ?_)
  · exact go (Or.inl h1)
  · refine mGo_run (n := 400) ok rfl ?_
    refine mGo_if ok rfl (fun h2 => ?_) (fun h2 => ?_)
    · exact go (Or.inr h2)
    · have hn : ¬ (o = 0 ∨ o = 1) := fun z => z.elim h1 h2
      rw [if_neg hn]
      refine mGo_run (n := 400) ok rfl ?_
      exact mGo_ret ok rfl trivial (⟨rfl, rfl, Or.inr ⟨by decide, rfl⟩⟩)
theorem x_allocate0 {s : Int32} (hs : ¬ ∃ k, k < 4 ∧ s = nI k) (t z : Int32) : mNP g l (d + 2) 103 [.ref 0, .int s, .int t, .int z] lk ex σ (.int (-1)) := by
  have ok : mOkP md_X8_allocate := ok_at 103 (by decide) rfl
  refine mC_of (md := md_X8_allocate) rfl (lt_at (by decide)) rfl ?_
  refine mGo_run (n := 400) ok rfl ?_
  refine mGo_callP ok rfl (by omega) (c_slotAt0 (d := d) hs) ?_
  refine mGo_run (n := 400) ok rfl ?_
  exact mGo_ret ok rfl trivial (⟨rfl, rfl, rfl⟩)
theorem x_release0 {s : Int32} (hs : ¬ ∃ k, k < 4 ∧ s = nI k) : mNP g l (d + 2) 104 [.ref 0, .int s] lk ex σ (.int (-1)) := by
  have ok : mOkP md_X8_release := ok_at 104 (by decide) rfl
  refine mC_of (md := md_X8_release) rfl (lt_at (by decide)) rfl ?_
  refine mGo_run (n := 400) ok rfl ?_
  refine mGo_callP ok rfl (by omega) (c_slotAt0 (d := d) hs) ?_
  refine mGo_run (n := 400) ok rfl ?_
  exact mGo_ret ok rfl trivial (⟨rfl, rfl, rfl⟩)
theorem x_putElement0 {s : Int32} (hs : ¬ ∃ k, k < 4 ∧ s = nI k) (i : Int32) (v : Int64) : mNP g l (d + 2) 105 [.ref 0, .int s, .int i, .long v] lk ex σ (.int (-1)) := by
  have ok : mOkP md_X8_putElement := ok_at 105 (by decide) rfl
  refine mC_of (md := md_X8_putElement) rfl (lt_at (by decide)) rfl ?_
  refine mGo_run (n := 400) ok rfl ?_
  refine mGo_callP ok rfl (by omega) (c_slotAt0 (d := d) hs) ?_
  refine mGo_run (n := 400) ok rfl ?_
  exact mGo_ret ok rfl trivial (⟨rfl, rfl, rfl⟩)
theorem x_element0 {s : Int32} (hs : ¬ ∃ k, k < 4 ∧ s = nI k) (i : Int32) : mNP g l (d + 2) 106 [.ref 0, .int s, .int i] lk ex σ (.long (-9223372036854775808)) := by
  have ok : mOkP md_X8_element := ok_at 106 (by decide) rfl
  refine mC_of (md := md_X8_element) rfl (lt_at (by decide)) rfl ?_
  refine mGo_run (n := 400) ok rfl ?_
  refine mGo_callP ok rfl (by omega) (c_slotAt0 (d := d) hs) ?_
  refine mGo_run (n := 400) ok rfl ?_
  exact mGo_ret ok rfl trivial (⟨rfl, rfl, rfl⟩)
theorem x_compute0 {s : Int32} (hs : ¬ ∃ k, k < 4 ∧ s = nI k) (i o op : Int32) : mNP g l (d + 2) 107 [.ref 0, .int s, .int i, .int o, .int op] lk ex σ (.int (-1)) := by
  have ok : mOkP md_X8_compute := ok_at 107 (by decide) rfl
  refine mC_of (md := md_X8_compute) rfl (lt_at (by decide)) rfl ?_
  refine mGo_run (n := 400) ok rfl ?_
  refine mGo_callP ok rfl (by omega) (c_slotAt0 (d := d) hs) ?_
  refine mGo_run (n := 400) ok rfl ?_
  exact mGo_ret ok rfl trivial (⟨rfl, rfl, rfl⟩)
end T
