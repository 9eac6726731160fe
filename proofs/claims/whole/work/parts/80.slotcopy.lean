/-! the class copies elements -/
def cpP (b b2 a a2 c : Nat) (σ σ1 : mHp) : Prop := fr (b2 + 1) (b2 + 4) σ σ1 ∧ (∀ j, σ1.2.1 (b2 + 1) j = if a2 ≤ j ∧ j < a2 + c then σ.2.1 (b + 1) (a + (j - a2)) else σ.2.1 (b2 + 1) j) ∧ (∀ j, σ1.2.2 (b2 + 2) j = if a2 ≤ j ∧ j < a2 + c then σ.2.2 (b + 2) (a + (j - a2)) else σ.2.2 (b2 + 2) j) ∧ ∀ j, σ1.1 (b2 + 3) j = if a2 ≤ j ∧ j < a2 + c then σ.1 (b + 3) (a + (j - a2)) else σ.1 (b2 + 3) j
theorem cpy_at {α : Type} (f g : Nat → α) (a b n j : Nat) : va_cpy f g a b n j = if b ≤ j ∧ j < b + n then f (a + (j - b)) else g j := rfl
theorem cp_link2 : Cond.methodLink (mCn md_X5_copyTo.2.1) 61 arraycopyName ∈ mTB := List.mem_filter.mpr (by decide +kernel)
/-- answers of copyElements -/
def qCp (S : aSl) (s i u j c : Int32) : Int32 := if (0 ≤ s ∧ s < 4) ∧ (0 ≤ u ∧ u < 4) then (if (S s.toNatClampNeg).1 = -1 ∨ (S u.toNatClampNeg).1 = -1 then -11 else if (S s.toNatClampNeg).1 = (S u.toNatClampNeg).1 then (if covB (S s.toNatClampNeg).2 i c = true ∧ covB (S u.toNatClampNeg).2 j c = true then c else -13) else -12) else -1
section T
variable {g : mG} {l : Launch} {d : Nat} {lk : Nat} {ex : mSh} {σ : mHp} {S : aSl}
theorem c_copyTo32_32 {n n2 a a2 k : Nat} (hn : n ≤ 40) (hn2 : n2 ≤ 40) (hl : σ.1 32 4 = nI n) (hl2 : σ.1 32 4 = nI n2) (ha : a + k ≤ n) (ha2 : a2 + k ≤ n2) : mNV g l (d + 1) 58 [.ref 32, .int (nI a), .ref 32, .int (nI a2), .int (nI k)] lk ex σ (fun σ1 => cpP 32 32 a a2 k σ σ1) := by
  have ok : mOkP md_X5_copyTo := ok_at 58 (by decide) rfl
  refine mC_of (md := md_X5_copyTo) rfl (lt_at (by decide)) rfl ?_
  refine mGo_run (n := 400) ok rfl ?_
  refine mGo_callP ok rfl (by omega) (c_covers32 (d := d) hl (nI a) (nI k)) ?_
  rw [covB_iff.mpr ((qCov_iff hn).mpr ⟨a, k, rfl, rfl, ha⟩)]
  refine mGo_if ok rfl (fun h => ?_) (fun h => ?_)
  · exact absurd h (by decide)
  · clear h
    refine mGo_run (n := 400) ok rfl ?_
    refine mGo_callP ok rfl (by omega) (c_covers32 (d := d) hl2 (nI a2) (nI k)) ?_
    rw [covB_iff.mpr ((qCov_iff hn2).mpr ⟨a2, k, rfl, rfl, ha2⟩)]
    refine mGo_if ok rfl (fun h => ?_) (fun h => ?_)
    · exact absurd h (by decide)
    · clear h
      refine mGo_run (n := 400) ok rfl ?_
      refine mGo_cpL ok rfl cp_link2 (q0 := 33) (q1 := 33) rfl rfl (by omega) (by omega) (by omega) (by omega) ⟨by decide, by decide⟩ (by omega) ?_
      refine mGo_run (n := 400) ok rfl ?_
      refine mGo_cpD ok rfl cp_link2 (q0 := 34) (q1 := 34) rfl rfl (by omega) (by omega) (by omega) (by omega) ⟨by decide, by decide⟩ (by omega) ?_
      refine mGo_run (n := 400) ok rfl ?_
      refine mGo_cpI ok rfl cp_link2 (q0 := 35) (q1 := 35) rfl rfl (by omega) (by omega) (by omega) (by omega) ⟨by decide, by decide⟩ (by omega) ?_
      refine mGo_run (n := 400) ok rfl ?_
      refine mGo_ret ok rfl trivial ⟨rfl, rfl, fun i hi => ⟨?_, ?_, ?_⟩, fun j => ?_, fun j => ?_, fun j => ?_⟩
      · exact if_neg (fun z => hi ⟨by omega, by omega⟩)
      · exact if_neg (fun z => hi ⟨by omega, by omega⟩)
      · exact if_neg (fun z => hi ⟨by omega, by omega⟩)
      · show (if (33 : Nat) = 33 then va_cpy (σ.2.1 33) (σ.2.1 33) a a2 k else σ.2.1 33) j = _
        rw [if_pos rfl, cpy_at]
      · show (if (34 : Nat) = 34 then va_cpy (σ.2.2 34) (σ.2.2 34) a a2 k else σ.2.2 34) j = _
        rw [if_pos rfl, cpy_at]
      · show (if (35 : Nat) = 35 then va_cpy (σ.1 35) (σ.1 35) a a2 k else σ.1 35) j = _
        rw [if_pos rfl, cpy_at]
theorem x_copyElements32_32 (hO : sOk S) (hS : cSl σ S) (i j c : Int32) : mNR g l (d + 2) 108 [.ref 0, .int (nI 0), .int i, .int (nI 0), .int j, .int c] lk ex σ (.int (if (S 0).1 = -1 ∨ (S 0).1 = -1 then -11 else if (S 0).1 = (S 0).1 then (if covB (S 0).2 i c = true ∧ covB (S 0).2 j c = true then c else -13) else -12)) (fun σ1 => (∃ a a2 n, i = nI a ∧ j = nI a2 ∧ c = nI n ∧ a + n ≤ (S 0).2 ∧ a2 + n ≤ (S 0).2 ∧ (S 0).1 ≠ -1 ∧ (S 0).1 = (S 0).1 ∧ cpP 32 32 a a2 n σ σ1) ∨ (¬ ((S 0).1 ≠ -1 ∧ (S 0).1 = (S 0).1 ∧ covB (S 0).2 i c = true ∧ covB (S 0).2 j c = true) ∧ σ1 = σ)) := by
  obtain ⟨s1, s2⟩ := hS 0 (by omega)
  obtain ⟨o1, -⟩ := hO 0 (by omega)
  obtain ⟨u1, u2⟩ := hS 0 (by omega)
  obtain ⟨p1, -⟩ := hO 0 (by omega)
  have s1 : σ.1 32 3 = (S 0).1 := s1
  have s2 : σ.1 32 4 = nI (S 0).2 := s2
  have u1 : σ.1 32 3 = (S 0).1 := u1
  have u2 : σ.1 32 4 = nI (S 0).2 := u2
  have ok : mOkP md_X8_copyElements := ok_at 108 (by decide) rfl
  refine mC_of (md := md_X8_copyElements) rfl (lt_at (by decide)) rfl ?_
  refine mGo_run (n := 400) ok rfl ?_
  refine mGo_callP ok rfl (by omega) (c_slotAt32 (d := d)) ?_
  refine mGo_run (n := 400) ok rfl ?_
  refine mGo_callP ok rfl (by omega) (c_slotAt32 (d := d)) ?_
  refine mGo_run (n := 400) ok rfl ?_
  refine mGo_callP ok rfl (by omega) (c_isEmpty32 (d := d)) ?_
  rw [s1]
  by_cases he : (S 0).1 = -1
  · rw [if_pos he, if_pos (Or.inl he)]
    refine mGo_if ok rfl (fun h1 => ?_) (fun h1 => ?_)
    · exact absurd h1 (by decide)
    · refine mGo_run (n := 400) ok rfl ?_
      exact mGo_ret ok rfl trivial (⟨rfl, rfl, Or.inr ⟨fun z => z.1 he, rfl⟩⟩)
  · rw [if_neg he]
    refine mGo_if ok rfl (fun h1 => ?_) (fun h1 => ?_)
    · refine mGo_run (n := 400) ok rfl ?_
      refine mGo_callP ok rfl (by omega) (c_isEmpty32 (d := d)) ?_
      rw [u1]
      by_cases hf : (S 0).1 = -1
      · rw [if_pos hf, if_pos (Or.inr hf)]
        refine mGo_if ok rfl (fun h2 => ?_) (fun h2 => ?_)
        · exact absurd h2 (by decide)
        · refine mGo_run (n := 400) ok rfl ?_
          exact mGo_ret ok rfl trivial (⟨rfl, rfl, Or.inr ⟨fun z => z.1 (z.2.1.trans hf), rfl⟩⟩)
      · rw [if_neg hf, if_neg (fun z => z.elim he hf)]
        refine mGo_if ok rfl (fun h2 => ?_) (fun h2 => ?_)
        · refine mGo_run (n := 400) ok rfl ?_
          first | rw [s1, u1] | rw [s1]
          refine mGo_if ok rfl (fun h3 => ?_) (fun h3 => ?_)
          · have h3 : (S 0).1 = (S 0).1 := h3
            rw [if_pos h3]
            refine mGo_run (n := 400) ok rfl ?_
            refine mGo_callP ok rfl (by omega) (c_covers32 (d := d) s2 i c) ?_
            cases hc : covB (S 0).2 i c with
            | false =>
              rw [if_neg (fun z => by cases z.1)]
              refine mGo_if ok rfl (fun h4 => ?_) (fun h4 => ?_)
              · refine mGo_run (n := 400) ok rfl ?_
                exact mGo_ret ok rfl trivial (⟨rfl, rfl, Or.inr ⟨fun z => (by cases z.2.2.1), rfl⟩⟩)
              · exact absurd rfl h4
            | true =>
              refine mGo_if ok rfl (fun h4 => ?_) (fun h4 => ?_)
              · exact absurd h4 (by decide)
              · refine mGo_run (n := 400) ok rfl ?_
                refine mGo_callP ok rfl (by omega) (c_covers32 (d := d) u2 j c) ?_
                cases hc2 : covB (S 0).2 j c with
                | false =>
                  rw [if_neg (fun z => by cases z.2)]
                  refine mGo_if ok rfl (fun h5 => ?_) (fun h5 => ?_)
                  · refine mGo_run (n := 400) ok rfl ?_
                    exact mGo_ret ok rfl trivial (⟨rfl, rfl, Or.inr ⟨fun z => (by cases z.2.2.2), rfl⟩⟩)
                  · exact absurd rfl h5
                | true =>
                  rw [if_pos ⟨rfl, rfl⟩]
                  obtain ⟨a, n, rfl, rfl, hac⟩ := (qCov_iff o1).mp (covB_iff.mp hc)
                  obtain ⟨a2, n2, rfl, hn2, hac2⟩ := (qCov_iff p1).mp (covB_iff.mp hc2)
                  have e : n = n2 := (nI_eq (by omega) (by omega)).mp hn2
                  subst e
                  refine mGo_if ok rfl (fun h5 => ?_) (fun h5 => ?_)
                  · exact absurd h5 (by decide)
                  · refine mGo_run (n := 400) ok rfl ?_
                    refine mGo_callV ok rfl (by omega) (c_copyTo32_32 (d := d) o1 p1 s2 u2 hac hac2) (fun τ hτ => ?_)
                    refine mGo_run (n := 400) ok rfl ?_
                    exact mGo_ret ok rfl trivial (⟨rfl, rfl, Or.inl ⟨a, a2, n, rfl, rfl, rfl, hac, hac2, he, h3, hτ⟩⟩)
          · have h3 : ¬ (S 0).1 = (S 0).1 := h3
            rw [if_neg h3]
            refine mGo_run (n := 400) ok rfl ?_
            exact mGo_ret ok rfl trivial (⟨rfl, rfl, Or.inr ⟨fun z => h3 z.2.1, rfl⟩⟩)
        · exact absurd rfl h2
    · exact absurd rfl h1
theorem c_copyTo32_36 {n n2 a a2 k : Nat} (hn : n ≤ 40) (hn2 : n2 ≤ 40) (hl : σ.1 32 4 = nI n) (hl2 : σ.1 36 4 = nI n2) (ha : a + k ≤ n) (ha2 : a2 + k ≤ n2) : mNV g l (d + 1) 58 [.ref 32, .int (nI a), .ref 36, .int (nI a2), .int (nI k)] lk ex σ (fun σ1 => cpP 32 36 a a2 k σ σ1) := by
  have ok : mOkP md_X5_copyTo := ok_at 58 (by decide) rfl
  refine mC_of (md := md_X5_copyTo) rfl (lt_at (by decide)) rfl ?_
  refine mGo_run (n := 400) ok rfl ?_
  refine mGo_callP ok rfl (by omega) (c_covers32 (d := d) hl (nI a) (nI k)) ?_
  rw [covB_iff.mpr ((qCov_iff hn).mpr ⟨a, k, rfl, rfl, ha⟩)]
  refine mGo_if ok rfl (fun h => ?_) (fun h => ?_)
  · exact absurd h (by decide)
  · clear h
    refine mGo_run (n := 400) ok rfl ?_
    refine mGo_callP ok rfl (by omega) (c_covers36 (d := d) hl2 (nI a2) (nI k)) ?_
    rw [covB_iff.mpr ((qCov_iff hn2).mpr ⟨a2, k, rfl, rfl, ha2⟩)]
    refine mGo_if ok rfl (fun h => ?_) (fun h => ?_)
    · exact absurd h (by decide)
    · clear h
      refine mGo_run (n := 400) ok rfl ?_
      refine mGo_cpL ok rfl cp_link2 (q0 := 33) (q1 := 37) rfl rfl (by omega) (by omega) (by omega) (by omega) ⟨by decide, by decide⟩ (by omega) ?_
      refine mGo_run (n := 400) ok rfl ?_
      refine mGo_cpD ok rfl cp_link2 (q0 := 34) (q1 := 38) rfl rfl (by omega) (by omega) (by omega) (by omega) ⟨by decide, by decide⟩ (by omega) ?_
      refine mGo_run (n := 400) ok rfl ?_
      refine mGo_cpI ok rfl cp_link2 (q0 := 35) (q1 := 39) rfl rfl (by omega) (by omega) (by omega) (by omega) ⟨by decide, by decide⟩ (by omega) ?_
      refine mGo_run (n := 400) ok rfl ?_
      refine mGo_ret ok rfl trivial ⟨rfl, rfl, fun i hi => ⟨?_, ?_, ?_⟩, fun j => ?_, fun j => ?_, fun j => ?_⟩
      · exact if_neg (fun z => hi ⟨by omega, by omega⟩)
      · exact if_neg (fun z => hi ⟨by omega, by omega⟩)
      · exact if_neg (fun z => hi ⟨by omega, by omega⟩)
      · show (if (37 : Nat) = 37 then va_cpy (σ.2.1 33) (σ.2.1 37) a a2 k else σ.2.1 37) j = _
        rw [if_pos rfl, cpy_at]
      · show (if (38 : Nat) = 38 then va_cpy (σ.2.2 34) (σ.2.2 38) a a2 k else σ.2.2 38) j = _
        rw [if_pos rfl, cpy_at]
      · show (if (39 : Nat) = 39 then va_cpy (σ.1 35) (σ.1 39) a a2 k else σ.1 39) j = _
        rw [if_pos rfl, cpy_at]
theorem x_copyElements32_36 (hO : sOk S) (hS : cSl σ S) (i j c : Int32) : mNR g l (d + 2) 108 [.ref 0, .int (nI 0), .int i, .int (nI 1), .int j, .int c] lk ex σ (.int (if (S 0).1 = -1 ∨ (S 1).1 = -1 then -11 else if (S 0).1 = (S 1).1 then (if covB (S 0).2 i c = true ∧ covB (S 1).2 j c = true then c else -13) else -12)) (fun σ1 => (∃ a a2 n, i = nI a ∧ j = nI a2 ∧ c = nI n ∧ a + n ≤ (S 0).2 ∧ a2 + n ≤ (S 1).2 ∧ (S 0).1 ≠ -1 ∧ (S 0).1 = (S 1).1 ∧ cpP 32 36 a a2 n σ σ1) ∨ (¬ ((S 0).1 ≠ -1 ∧ (S 0).1 = (S 1).1 ∧ covB (S 0).2 i c = true ∧ covB (S 1).2 j c = true) ∧ σ1 = σ)) := by
  obtain ⟨s1, s2⟩ := hS 0 (by omega)
  obtain ⟨o1, -⟩ := hO 0 (by omega)
  obtain ⟨u1, u2⟩ := hS 1 (by omega)
  obtain ⟨p1, -⟩ := hO 1 (by omega)
  have s1 : σ.1 32 3 = (S 0).1 := s1
  have s2 : σ.1 32 4 = nI (S 0).2 := s2
  have u1 : σ.1 36 3 = (S 1).1 := u1
  have u2 : σ.1 36 4 = nI (S 1).2 := u2
  have ok : mOkP md_X8_copyElements := ok_at 108 (by decide) rfl
  refine mC_of (md := md_X8_copyElements) rfl (lt_at (by decide)) rfl ?_
  refine mGo_run (n := 400) ok rfl ?_
  refine mGo_callP ok rfl (by omega) (c_slotAt32 (d := d)) ?_
  refine mGo_run (n := 400) ok rfl ?_
  refine mGo_callP ok rfl (by omega) (c_slotAt36 (d := d)) ?_
  refine mGo_run (n := 400) ok rfl ?_
  refine mGo_callP ok rfl (by omega) (c_isEmpty32 (d := d)) ?_
  rw [s1]
  by_cases he : (S 0).1 = -1
  · rw [if_pos he, if_pos (Or.inl he)]
    refine mGo_if ok rfl (fun h1 => ?_) (fun h1 => ?_)
    · exact absurd h1 (by decide)
    · refine mGo_run (n := 400) ok rfl ?_
      exact mGo_ret ok rfl trivial (⟨rfl, rfl, Or.inr ⟨fun z => z.1 he, rfl⟩⟩)
  · rw [if_neg he]
    refine mGo_if ok rfl (fun h1 => ?_) (fun h1 => ?_)
    · refine mGo_run (n := 400) ok rfl ?_
      refine mGo_callP ok rfl (by omega) (c_isEmpty36 (d := d)) ?_
      rw [u1]
      by_cases hf : (S 1).1 = -1
      · rw [if_pos hf, if_pos (Or.inr hf)]
        refine mGo_if ok rfl (fun h2 => ?_) (fun h2 => ?_)
        · exact absurd h2 (by decide)
        · refine mGo_run (n := 400) ok rfl ?_
          exact mGo_ret ok rfl trivial (⟨rfl, rfl, Or.inr ⟨fun z => z.1 (z.2.1.trans hf), rfl⟩⟩)
      · rw [if_neg hf, if_neg (fun z => z.elim he hf)]
        refine mGo_if ok rfl (fun h2 => ?_) (fun h2 => ?_)
        · refine mGo_run (n := 400) ok rfl ?_
          first | rw [s1, u1] | rw [s1]
          refine mGo_if ok rfl (fun h3 => ?_) (fun h3 => ?_)
          · have h3 : (S 0).1 = (S 1).1 := h3
            rw [if_pos h3]
            refine mGo_run (n := 400) ok rfl ?_
            refine mGo_callP ok rfl (by omega) (c_covers32 (d := d) s2 i c) ?_
            cases hc : covB (S 0).2 i c with
            | false =>
              rw [if_neg (fun z => by cases z.1)]
              refine mGo_if ok rfl (fun h4 => ?_) (fun h4 => ?_)
              · refine mGo_run (n := 400) ok rfl ?_
                exact mGo_ret ok rfl trivial (⟨rfl, rfl, Or.inr ⟨fun z => (by cases z.2.2.1), rfl⟩⟩)
              · exact absurd rfl h4
            | true =>
              refine mGo_if ok rfl (fun h4 => ?_) (fun h4 => ?_)
              · exact absurd h4 (by decide)
              · refine mGo_run (n := 400) ok rfl ?_
                refine mGo_callP ok rfl (by omega) (c_covers36 (d := d) u2 j c) ?_
                cases hc2 : covB (S 1).2 j c with
                | false =>
                  rw [if_neg (fun z => by cases z.2)]
                  refine mGo_if ok rfl (fun h5 => ?_) (fun h5 => ?_)
                  · refine mGo_run (n := 400) ok rfl ?_
                    exact mGo_ret ok rfl trivial (⟨rfl, rfl, Or.inr ⟨fun z => (by cases z.2.2.2), rfl⟩⟩)
                  · exact absurd rfl h5
                | true =>
                  rw [if_pos ⟨rfl, rfl⟩]
                  obtain ⟨a, n, rfl, rfl, hac⟩ := (qCov_iff o1).mp (covB_iff.mp hc)
                  obtain ⟨a2, n2, rfl, hn2, hac2⟩ := (qCov_iff p1).mp (covB_iff.mp hc2)
                  have e : n = n2 := (nI_eq (by omega) (by omega)).mp hn2
                  subst e
                  refine mGo_if ok rfl (fun h5 => ?_) (fun h5 => ?_)
                  · exact absurd h5 (by decide)
                  · refine mGo_run (n := 400) ok rfl ?_
                    refine mGo_callV ok rfl (by omega) (c_copyTo32_36 (d := d) o1 p1 s2 u2 hac hac2) (fun τ hτ => ?_)
                    refine mGo_run (n := 400) ok rfl ?_
                    exact mGo_ret ok rfl trivial (⟨rfl, rfl, Or.inl ⟨a, a2, n, rfl, rfl, rfl, hac, hac2, he, h3, hτ⟩⟩)
          · have h3 : ¬ (S 0).1 = (S 1).1 := h3
            rw [if_neg h3]
            refine mGo_run (n := 400) ok rfl ?_
            exact mGo_ret ok rfl trivial (⟨rfl, rfl, Or.inr ⟨fun z => h3 z.2.1, rfl⟩⟩)
        · exact absurd rfl h2
    · exact absurd rfl h1
theorem c_copyTo32_40 {n n2 a a2 k : Nat} (hn : n ≤ 40) (hn2 : n2 ≤ 40) (hl : σ.1 32 4 = nI n) (hl2 : σ.1 40 4 = nI n2) (ha : a + k ≤ n) (ha2 : a2 + k ≤ n2) : mNV g l (d + 1) 58 [.ref 32, .int (nI a), .ref 40, .int (nI a2), .int (nI k)] lk ex σ (fun σ1 => cpP 32 40 a a2 k σ σ1) := by
  have ok : mOkP md_X5_copyTo := ok_at 58 (by decide) rfl
  refine mC_of (md := md_X5_copyTo) rfl (lt_at (by decide)) rfl ?_
  refine mGo_run (n := 400) ok rfl ?_
  refine mGo_callP ok rfl (by omega) (c_covers32 (d := d) hl (nI a) (nI k)) ?_
  rw [covB_iff.mpr ((qCov_iff hn).mpr ⟨a, k, rfl, rfl, ha⟩)]
  refine mGo_if ok rfl (fun h => ?_) (fun h => ?_)
  · exact absurd h (by decide)
  · clear h
    refine mGo_run (n := 400) ok rfl ?_
    refine mGo_callP ok rfl (by omega) (c_covers40 (d := d) hl2 (nI a2) (nI k)) ?_
    rw [covB_iff.mpr ((qCov_iff hn2).mpr ⟨a2, k, rfl, rfl, ha2⟩)]
    refine mGo_if ok rfl (fun h => ?_) (fun h => ?_)
    · exact absurd h (by decide)
    · clear h
      refine mGo_run (n := 400) ok rfl ?_
      refine mGo_cpL ok rfl cp_link2 (q0 := 33) (q1 := 41) rfl rfl (by omega) (by omega) (by omega) (by omega) ⟨by decide, by decide⟩ (by omega) ?_
      refine mGo_run (n := 400) ok rfl ?_
      refine mGo_cpD ok rfl cp_link2 (q0 := 34) (q1 := 42) rfl rfl (by omega) (by omega) (by omega) (by omega) ⟨by decide, by decide⟩ (by omega) ?_
      refine mGo_run (n := 400) ok rfl ?_
      refine mGo_cpI ok rfl cp_link2 (q0 := 35) (q1 := 43) rfl rfl (by omega) (by omega) (by omega) (by omega) ⟨by decide, by decide⟩ (by omega) ?_
      refine mGo_run (n := 400) ok rfl ?_
      refine mGo_ret ok rfl trivial ⟨rfl, rfl, fun i hi => ⟨?_, ?_, ?_⟩, fun j => ?_, fun j => ?_, fun j => ?_⟩
      · exact if_neg (fun z => hi ⟨by omega, by omega⟩)
      · exact if_neg (fun z => hi ⟨by omega, by omega⟩)
      · exact if_neg (fun z => hi ⟨by omega, by omega⟩)
      · show (if (41 : Nat) = 41 then va_cpy (σ.2.1 33) (σ.2.1 41) a a2 k else σ.2.1 41) j = _
        rw [if_pos rfl, cpy_at]
      · show (if (42 : Nat) = 42 then va_cpy (σ.2.2 34) (σ.2.2 42) a a2 k else σ.2.2 42) j = _
        rw [if_pos rfl, cpy_at]
      · show (if (43 : Nat) = 43 then va_cpy (σ.1 35) (σ.1 43) a a2 k else σ.1 43) j = _
        rw [if_pos rfl, cpy_at]
theorem x_copyElements32_40 (hO : sOk S) (hS : cSl σ S) (i j c : Int32) : mNR g l (d + 2) 108 [.ref 0, .int (nI 0), .int i, .int (nI 2), .int j, .int c] lk ex σ (.int (if (S 0).1 = -1 ∨ (S 2).1 = -1 then -11 else if (S 0).1 = (S 2).1 then (if covB (S 0).2 i c = true ∧ covB (S 2).2 j c = true then c else -13) else -12)) (fun σ1 => (∃ a a2 n, i = nI a ∧ j = nI a2 ∧ c = nI n ∧ a + n ≤ (S 0).2 ∧ a2 + n ≤ (S 2).2 ∧ (S 0).1 ≠ -1 ∧ (S 0).1 = (S 2).1 ∧ cpP 32 40 a a2 n σ σ1) ∨ (¬ ((S 0).1 ≠ -1 ∧ (S 0).1 = (S 2).1 ∧ covB (S 0).2 i c = true ∧ covB (S 2).2 j c = true) ∧ σ1 = σ)) := by
  obtain ⟨s1, s2⟩ := hS 0 (by omega)
  obtain ⟨o1, -⟩ := hO 0 (by omega)
  obtain ⟨u1, u2⟩ := hS 2 (by omega)
  obtain ⟨p1, -⟩ := hO 2 (by omega)
  have s1 : σ.1 32 3 = (S 0).1 := s1
  have s2 : σ.1 32 4 = nI (S 0).2 := s2
  have u1 : σ.1 40 3 = (S 2).1 := u1
  have u2 : σ.1 40 4 = nI (S 2).2 := u2
  have ok : mOkP md_X8_copyElements := ok_at 108 (by decide) rfl
  refine mC_of (md := md_X8_copyElements) rfl (lt_at (by decide)) rfl ?_
  refine mGo_run (n := 400) ok rfl ?_
  refine mGo_callP ok rfl (by omega) (c_slotAt32 (d := d)) ?_
  refine mGo_run (n := 400) ok rfl ?_
  refine mGo_callP ok rfl (by omega) (c_slotAt40 (d := d)) ?_
  refine mGo_run (n := 400) ok rfl ?_
  refine mGo_callP ok rfl (by omega) (c_isEmpty32 (d := d)) ?_
  rw [s1]
  by_cases he : (S 0).1 = -1
  · rw [if_pos he, if_pos (Or.inl he)]
    refine mGo_if ok rfl (fun h1 => ?_) (fun h1 => ?_)
    · exact absurd h1 (by decide)
    · refine mGo_run (n := 400) ok rfl ?_
      exact mGo_ret ok rfl trivial (⟨rfl, rfl, Or.inr ⟨fun z => z.1 he, rfl⟩⟩)
  · rw [if_neg he]
    refine mGo_if ok rfl (fun h1 => ?_) (fun h1 => ?_)
    · refine mGo_run (n := 400) ok rfl ?_
      refine mGo_callP ok rfl (by omega) (c_isEmpty40 (d := d)) ?_
      rw [u1]
      by_cases hf : (S 2).1 = -1
      · rw [if_pos hf, if_pos (Or.inr hf)]
        refine mGo_if ok rfl (fun h2 => ?_) (fun h2 => ?_)
        · exact absurd h2 (by decide)
        · refine mGo_run (n := 400) ok rfl ?_
          exact mGo_ret ok rfl trivial (⟨rfl, rfl, Or.inr ⟨fun z => z.1 (z.2.1.trans hf), rfl⟩⟩)
      · rw [if_neg hf, if_neg (fun z => z.elim he hf)]
        refine mGo_if ok rfl (fun h2 => ?_) (fun h2 => ?_)
        · refine mGo_run (n := 400) ok rfl ?_
          first | rw [s1, u1] | rw [s1]
          refine mGo_if ok rfl (fun h3 => ?_) (fun h3 => ?_)
          · have h3 : (S 0).1 = (S 2).1 := h3
            rw [if_pos h3]
            refine mGo_run (n := 400) ok rfl ?_
            refine mGo_callP ok rfl (by omega) (c_covers32 (d := d) s2 i c) ?_
            cases hc : covB (S 0).2 i c with
            | false =>
              rw [if_neg (fun z => by cases z.1)]
              refine mGo_if ok rfl (fun h4 => ?_) (fun h4 => ?_)
              · refine mGo_run (n := 400) ok rfl ?_
                exact mGo_ret ok rfl trivial (⟨rfl, rfl, Or.inr ⟨fun z => (by cases z.2.2.1), rfl⟩⟩)
              · exact absurd rfl h4
            | true =>
              refine mGo_if ok rfl (fun h4 => ?_) (fun h4 => ?_)
              · exact absurd h4 (by decide)
              · refine mGo_run (n := 400) ok rfl ?_
                refine mGo_callP ok rfl (by omega) (c_covers40 (d := d) u2 j c) ?_
                cases hc2 : covB (S 2).2 j c with
                | false =>
                  rw [if_neg (fun z => by cases z.2)]
                  refine mGo_if ok rfl (fun h5 => ?_) (fun h5 => ?_)
                  · refine mGo_run (n := 400) ok rfl ?_
                    exact mGo_ret ok rfl trivial (⟨rfl, rfl, Or.inr ⟨fun z => (by cases z.2.2.2), rfl⟩⟩)
                  · exact absurd rfl h5
                | true =>
                  rw [if_pos ⟨rfl, rfl⟩]
                  obtain ⟨a, n, rfl, rfl, hac⟩ := (qCov_iff o1).mp (covB_iff.mp hc)
                  obtain ⟨a2, n2, rfl, hn2, hac2⟩ := (qCov_iff p1).mp (covB_iff.mp hc2)
                  have e : n = n2 := (nI_eq (by omega) (by omega)).mp hn2
                  subst e
                  refine mGo_if ok rfl (fun h5 => ?_) (fun h5 => ?_)
                  · exact absurd h5 (by decide)
                  · refine mGo_run (n := 400) ok rfl ?_
                    refine mGo_callV ok rfl (by omega) (c_copyTo32_40 (d := d) o1 p1 s2 u2 hac hac2) (fun τ hτ => ?_)
                    refine mGo_run (n := 400) ok rfl ?_
                    exact mGo_ret ok rfl trivial (⟨rfl, rfl, Or.inl ⟨a, a2, n, rfl, rfl, rfl, hac, hac2, he, h3, hτ⟩⟩)
          · have h3 : ¬ (S 0).1 = (S 2).1 := h3
            rw [if_neg h3]
            refine mGo_run (n := 400) ok rfl ?_
            exact mGo_ret ok rfl trivial (⟨rfl, rfl, Or.inr ⟨fun z => h3 z.2.1, rfl⟩⟩)
        · exact absurd rfl h2
    · exact absurd rfl h1
theorem c_copyTo32_44 {n n2 a a2 k : Nat} (hn : n ≤ 40) (hn2 : n2 ≤ 40) (hl : σ.1 32 4 = nI n) (hl2 : σ.1 44 4 = nI n2) (ha : a + k ≤ n) (ha2 : a2 + k ≤ n2) : mNV g l (d + 1) 58 [.ref 32, .int (nI a), .ref 44, .int (nI a2), .int (nI k)] lk ex σ (fun σ1 => cpP 32 44 a a2 k σ σ1) := by
  have ok : mOkP md_X5_copyTo := ok_at 58 (by decide) rfl
  refine mC_of (md := md_X5_copyTo) rfl (lt_at (by decide)) rfl ?_
  refine mGo_run (n := 400) ok rfl ?_
  refine mGo_callP ok rfl (by omega) (c_covers32 (d := d) hl (nI a) (nI k)) ?_
  rw [covB_iff.mpr ((qCov_iff hn).mpr ⟨a, k, rfl, rfl, ha⟩)]
  refine mGo_if ok rfl (fun h => ?_) (fun h => ?_)
  · exact absurd h (by decide)
  · clear h
    refine mGo_run (n := 400) ok rfl ?_
    refine mGo_callP ok rfl (by omega) (c_covers44 (d := d) hl2 (nI a2) (nI k)) ?_
    rw [covB_iff.mpr ((qCov_iff hn2).mpr ⟨a2, k, rfl, rfl, ha2⟩)]
    refine mGo_if ok rfl (fun h => ?_) (fun h => ?_)
    · exact absurd h (by decide)
    · clear h
      refine mGo_run (n := 400) ok rfl ?_
      refine mGo_cpL ok rfl cp_link2 (q0 := 33) (q1 := 45) rfl rfl (by omega) (by omega) (by omega) (by omega) ⟨by decide, by decide⟩ (by omega) ?_
      refine mGo_run (n := 400) ok rfl ?_
      refine mGo_cpD ok rfl cp_link2 (q0 := 34) (q1 := 46) rfl rfl (by omega) (by omega) (by omega) (by omega) ⟨by decide, by decide⟩ (by omega) ?_
      refine mGo_run (n := 400) ok rfl ?_
      refine mGo_cpI ok rfl cp_link2 (q0 := 35) (q1 := 47) rfl rfl (by omega) (by omega) (by omega) (by omega) ⟨by decide, by decide⟩ (by omega) ?_
      refine mGo_run (n := 400) ok rfl ?_
      refine mGo_ret ok rfl trivial ⟨rfl, rfl, fun i hi => ⟨?_, ?_, ?_⟩, fun j => ?_, fun j => ?_, fun j => ?_⟩
      · exact if_neg (fun z => hi ⟨by omega, by omega⟩)
      · exact if_neg (fun z => hi ⟨by omega, by omega⟩)
      · exact if_neg (fun z => hi ⟨by omega, by omega⟩)
      · show (if (45 : Nat) = 45 then va_cpy (σ.2.1 33) (σ.2.1 45) a a2 k else σ.2.1 45) j = _
        rw [if_pos rfl, cpy_at]
      · show (if (46 : Nat) = 46 then va_cpy (σ.2.2 34) (σ.2.2 46) a a2 k else σ.2.2 46) j = _
        rw [if_pos rfl, cpy_at]
      · show (if (47 : Nat) = 47 then va_cpy (σ.1 35) (σ.1 47) a a2 k else σ.1 47) j = _
        rw [if_pos rfl, cpy_at]
theorem x_copyElements32_44 (hO : sOk S) (hS : cSl σ S) (i j c : Int32) : mNR g l (d + 2) 108 [.ref 0, .int (nI 0), .int i, .int (nI 3), .int j, .int c] lk ex σ (.int (if (S 0).1 = -1 ∨ (S 3).1 = -1 then -11 else if (S 0).1 = (S 3).1 then (if covB (S 0).2 i c = true ∧ covB (S 3).2 j c = true then c else -13) else -12)) (fun σ1 => (∃ a a2 n, i = nI a ∧ j = nI a2 ∧ c = nI n ∧ a + n ≤ (S 0).2 ∧ a2 + n ≤ (S 3).2 ∧ (S 0).1 ≠ -1 ∧ (S 0).1 = (S 3).1 ∧ cpP 32 44 a a2 n σ σ1) ∨ (¬ ((S 0).1 ≠ -1 ∧ (S 0).1 = (S 3).1 ∧ covB (S 0).2 i c = true ∧ covB (S 3).2 j c = true) ∧ σ1 = σ)) := by
  obtain ⟨s1, s2⟩ := hS 0 (by omega)
  obtain ⟨o1, -⟩ := hO 0 (by omega)
  obtain ⟨u1, u2⟩ := hS 3 (by omega)
  obtain ⟨p1, -⟩ := hO 3 (by omega)
  have s1 : σ.1 32 3 = (S 0).1 := s1
  have s2 : σ.1 32 4 = nI (S 0).2 := s2
  have u1 : σ.1 44 3 = (S 3).1 := u1
  have u2 : σ.1 44 4 = nI (S 3).2 := u2
  have ok : mOkP md_X8_copyElements := ok_at 108 (by decide) rfl
  refine mC_of (md := md_X8_copyElements) rfl (lt_at (by decide)) rfl ?_
  refine mGo_run (n := 400) ok rfl ?_
  refine mGo_callP ok rfl (by omega) (c_slotAt32 (d := d)) ?_
  refine mGo_run (n := 400) ok rfl ?_
  refine mGo_callP ok rfl (by omega) (c_slotAt44 (d := d)) ?_
  refine mGo_run (n := 400) ok rfl ?_
  refine mGo_callP ok rfl (by omega) (c_isEmpty32 (d := d)) ?_
  rw [s1]
  by_cases he : (S 0).1 = -1
  · rw [if_pos he, if_pos (Or.inl he)]
    refine mGo_if ok rfl (fun h1 => ?_) (fun h1 => ?_)
    · exact absurd h1 (by decide)
    · refine mGo_run (n := 400) ok rfl ?_
      exact mGo_ret ok rfl trivial (⟨rfl, rfl, Or.inr ⟨fun z => z.1 he, rfl⟩⟩)
  · rw [if_neg he]
    refine mGo_if ok rfl (fun h1 => ?_) (fun h1 => ?_)
    · refine mGo_run (n := 400) ok rfl ?_
      refine mGo_callP ok rfl (by omega) (c_isEmpty44 (d := d)) ?_
      rw [u1]
      by_cases hf : (S 3).1 = -1
      · rw [if_pos hf, if_pos (Or.inr hf)]
        refine mGo_if ok rfl (fun h2 => ?_) (fun h2 => ?_)
        · exact absurd h2 (by decide)
        · refine mGo_run (n := 400) ok rfl ?_
          exact mGo_ret ok rfl trivial (⟨rfl, rfl, Or.inr ⟨fun z => z.1 (z.2.1.trans hf), rfl⟩⟩)
      · rw [if_neg hf, if_neg (fun z => z.elim he hf)]
        refine mGo_if ok rfl (fun h2 => ?_) (fun h2 => ?_)
        · refine mGo_run (n := 400) ok rfl ?_
          first | rw [s1, u1] | rw [s1]
          refine mGo_if ok rfl (fun h3 => ?_) (fun h3 => ?_)
          · have h3 : (S 0).1 = (S 3).1 := h3
            rw [if_pos h3]
            refine mGo_run (n := 400) ok rfl ?_
            refine mGo_callP ok rfl (by omega) (c_covers32 (d := d) s2 i c) ?_
            cases hc : covB (S 0).2 i c with
            | false =>
              rw [if_neg (fun z => by cases z.1)]
              refine mGo_if ok rfl (fun h4 => ?_) (fun h4 => ?_)
              · refine mGo_run (n := 400) ok rfl ?_
                exact mGo_ret ok rfl trivial (⟨rfl, rfl, Or.inr ⟨fun z => (by cases z.2.2.1), rfl⟩⟩)
              · exact absurd rfl h4
            | true =>
              refine mGo_if ok rfl (fun h4 => ?_) (fun h4 => ?_)
              · exact absurd h4 (by decide)
              · refine mGo_run (n := 400) ok rfl ?_
                refine mGo_callP ok rfl (by omega) (c_covers44 (d := d) u2 j c) ?_
                cases hc2 : covB (S 3).2 j c with
                | false =>
                  rw [if_neg (fun z => by cases z.2)]
                  refine mGo_if ok rfl (fun h5 => ?_) (fun h5 => ?_)
                  · refine mGo_run (n := 400) ok rfl ?_
                    exact mGo_ret ok rfl trivial (⟨rfl, rfl, Or.inr ⟨fun z => (by cases z.2.2.2), rfl⟩⟩)
                  · exact absurd rfl h5
                | true =>
                  rw [if_pos ⟨rfl, rfl⟩]
                  obtain ⟨a, n, rfl, rfl, hac⟩ := (qCov_iff o1).mp (covB_iff.mp hc)
                  obtain ⟨a2, n2, rfl, hn2, hac2⟩ := (qCov_iff p1).mp (covB_iff.mp hc2)
                  have e : n = n2 := (nI_eq (by omega) (by omega)).mp hn2
                  subst e
                  refine mGo_if ok rfl (fun h5 => ?_) (fun h5 => ?_)
                  · exact absurd h5 (by decide)
                  · refine mGo_run (n := 400) ok rfl ?_
                    refine mGo_callV ok rfl (by omega) (c_copyTo32_44 (d := d) o1 p1 s2 u2 hac hac2) (fun τ hτ => ?_)
                    refine mGo_run (n := 400) ok rfl ?_
                    exact mGo_ret ok rfl trivial (⟨rfl, rfl, Or.inl ⟨a, a2, n, rfl, rfl, rfl, hac, hac2, he, h3, hτ⟩⟩)
          · have h3 : ¬ (S 0).1 = (S 3).1 := h3
            rw [if_neg h3]
            refine mGo_run (n := 400) ok rfl ?_
            exact mGo_ret ok rfl trivial (⟨rfl, rfl, Or.inr ⟨fun z => h3 z.2.1, rfl⟩⟩)
        · exact absurd rfl h2
    · exact absurd rfl h1
theorem x_copyElementsN32 {u : Int32} (hu : ¬ ∃ k, k < 4 ∧ u = nI k) (i j c : Int32) : mNP g l (d + 2) 108 [.ref 0, .int (nI 0), .int i, .int u, .int j, .int c] lk ex σ (.int (-1)) := by
  have ok : mOkP md_X8_copyElements := ok_at 108 (by decide) rfl
  refine mC_of (md := md_X8_copyElements) rfl (lt_at (by decide)) rfl ?_
  refine mGo_run (n := 400) ok rfl ?_
  refine mGo_callP ok rfl (by omega) (c_slotAt32 (d := d)) ?_
  refine mGo_run (n := 400) ok rfl ?_
  refine mGo_callP ok rfl (by omega) (c_slotAt0 (d := d) hu) ?_
  refine mGo_run (n := 400) ok rfl ?_
  exact mGo_ret ok rfl trivial (⟨rfl, rfl, rfl⟩)
theorem x_copyElementsM32 {s : Int32} (hs : ¬ ∃ k, k < 4 ∧ s = nI k) (i j c : Int32) : mNP g l (d + 2) 108 [.ref 0, .int s, .int i, .int (nI 0), .int j, .int c] lk ex σ (.int (-1)) := by
  have ok : mOkP md_X8_copyElements := ok_at 108 (by decide) rfl
  refine mC_of (md := md_X8_copyElements) rfl (lt_at (by decide)) rfl ?_
  refine mGo_run (n := 400) ok rfl ?_
  refine mGo_callP ok rfl (by omega) (c_slotAt0 (d := d) hs) ?_
  refine mGo_run (n := 400) ok rfl ?_
  refine mGo_callP ok rfl (by omega) (c_slotAt32 (d := d)) ?_
  refine mGo_run (n := 400) ok rfl ?_
  exact mGo_ret ok rfl trivial (⟨rfl, rfl, rfl⟩)
theorem c_copyTo36_32 {n n2 a a2 k : Nat} (hn : n ≤ 40) (hn2 : n2 ≤ 40) (hl : σ.1 36 4 = nI n) (hl2 : σ.1 32 4 = nI n2) (ha : a + k ≤ n) (ha2 : a2 + k ≤ n2) : mNV g l (d + 1) 58 [.ref 36, .int (nI a), .ref 32, .int (nI a2), .int (nI k)] lk ex σ (fun σ1 => cpP 36 32 a a2 k σ σ1) := by
  have ok : mOkP md_X5_copyTo := ok_at 58 (by decide) rfl
  refine mC_of (md := md_X5_copyTo) rfl (lt_at (by decide)) rfl ?_
  refine mGo_run (n := 400) ok rfl ?_
  refine mGo_callP ok rfl (by omega) (c_covers36 (d := d) hl (nI a) (nI k)) ?_
  rw [covB_iff.mpr ((qCov_iff hn).mpr ⟨a, k, rfl, rfl, ha⟩)]
  refine mGo_if ok rfl (fun h => ?_) (fun h => ?_)
  · exact absurd h (by decide)
  · clear h
    refine mGo_run (n := 400) ok rfl ?_
    refine mGo_callP ok rfl (by omega) (c_covers32 (d := d) hl2 (nI a2) (nI k)) ?_
    rw [covB_iff.mpr ((qCov_iff hn2).mpr ⟨a2, k, rfl, rfl, ha2⟩)]
    refine mGo_if ok rfl (fun h => ?_) (fun h => ?_)
    · exact absurd h (by decide)
    · clear h
      refine mGo_run (n := 400) ok rfl ?_
      refine mGo_cpL ok rfl cp_link2 (q0 := 37) (q1 := 33) rfl rfl (by omega) (by omega) (by omega) (by omega) ⟨by decide, by decide⟩ (by omega) ?_
      refine mGo_run (n := 400) ok rfl ?_
      refine mGo_cpD ok rfl cp_link2 (q0 := 38) (q1 := 34) rfl rfl (by omega) (by omega) (by omega) (by omega) ⟨by decide, by decide⟩ (by omega) ?_
      refine mGo_run (n := 400) ok rfl ?_
      refine mGo_cpI ok rfl cp_link2 (q0 := 39) (q1 := 35) rfl rfl (by omega) (by omega) (by omega) (by omega) ⟨by decide, by decide⟩ (by omega) ?_
      refine mGo_run (n := 400) ok rfl ?_
      refine mGo_ret ok rfl trivial ⟨rfl, rfl, fun i hi => ⟨?_, ?_, ?_⟩, fun j => ?_, fun j => ?_, fun j => ?_⟩
      · exact if_neg (fun z => hi ⟨by omega, by omega⟩)
      · exact if_neg (fun z => hi ⟨by omega, by omega⟩)
      · exact if_neg (fun z => hi ⟨by omega, by omega⟩)
      · show (if (33 : Nat) = 33 then va_cpy (σ.2.1 37) (σ.2.1 33) a a2 k else σ.2.1 33) j = _
        rw [if_pos rfl, cpy_at]
      · show (if (34 : Nat) = 34 then va_cpy (σ.2.2 38) (σ.2.2 34) a a2 k else σ.2.2 34) j = _
        rw [if_pos rfl, cpy_at]
      · show (if (35 : Nat) = 35 then va_cpy (σ.1 39) (σ.1 35) a a2 k else σ.1 35) j = _
        rw [if_pos rfl, cpy_at]
theorem x_copyElements36_32 (hO : sOk S) (hS : cSl σ S) (i j c : Int32) : mNR g l (d + 2) 108 [.ref 0, .int (nI 1), .int i, .int (nI 0), .int j, .int c] lk ex σ (.int (if (S 1).1 = -1 ∨ (S 0).1 = -1 then -11 else if (S 1).1 = (S 0).1 then (if covB (S 1).2 i c = true ∧ covB (S 0).2 j c = true then c else -13) else -12)) (fun σ1 => (∃ a a2 n, i = nI a ∧ j = nI a2 ∧ c = nI n ∧ a + n ≤ (S 1).2 ∧ a2 + n ≤ (S 0).2 ∧ (S 1).1 ≠ -1 ∧ (S 1).1 = (S 0).1 ∧ cpP 36 32 a a2 n σ σ1) ∨ (¬ ((S 1).1 ≠ -1 ∧ (S 1).1 = (S 0).1 ∧ covB (S 1).2 i c = true ∧ covB (S 0).2 j c = true) ∧ σ1 = σ)) := by
  obtain ⟨s1, s2⟩ := hS 1 (by omega)
  obtain ⟨o1, -⟩ := hO 1 (by omega)
  obtain ⟨u1, u2⟩ := hS 0 (by omega)
  obtain ⟨p1, -⟩ := hO 0 (by omega)
  have s1 : σ.1 36 3 = (S 1).1 := s1
  have s2 : σ.1 36 4 = nI (S 1).2 := s2
  have u1 : σ.1 32 3 = (S 0).1 := u1
  have u2 : σ.1 32 4 = nI (S 0).2 := u2
  have ok : mOkP md_X8_copyElements := ok_at 108 (by decide) rfl
  refine mC_of (md := md_X8_copyElements) rfl (lt_at (by decide)) rfl ?_
  refine mGo_run (n := 400) ok rfl ?_
  refine mGo_callP ok rfl (by omega) (c_slotAt36 (d := d)) ?_
  refine mGo_run (n := 400) ok rfl ?_
  refine mGo_callP ok rfl (by omega) (c_slotAt32 (d := d)) ?_
  refine mGo_run (n := 400) ok rfl ?_
  refine mGo_callP ok rfl (by omega) (c_isEmpty36 (d := d)) ?_
  rw [s1]
  by_cases he : (S 1).1 = -1
  · rw [if_pos he, if_pos (Or.inl he)]
    refine mGo_if ok rfl (fun h1 => ?_) (fun h1 => ?_)
    · exact absurd h1 (by decide)
    · refine mGo_run (n := 400) ok rfl ?_
      exact mGo_ret ok rfl trivial (⟨rfl, rfl, Or.inr ⟨fun z => z.1 he, rfl⟩⟩)
  · rw [if_neg he]
    refine mGo_if ok rfl (fun h1 => ?_) (fun h1 => ?_)
    · refine mGo_run (n := 400) ok rfl ?_
      refine mGo_callP ok rfl (by omega) (c_isEmpty32 (d := d)) ?_
      rw [u1]
      by_cases hf : (S 0).1 = -1
      · rw [if_pos hf, if_pos (Or.inr hf)]
        refine mGo_if ok rfl (fun h2 => ?_) (fun h2 => ?_)
        · exact absurd h2 (by decide)
        · refine mGo_run (n := 400) ok rfl ?_
          exact mGo_ret ok rfl trivial (⟨rfl, rfl, Or.inr ⟨fun z => z.1 (z.2.1.trans hf), rfl⟩⟩)
      · rw [if_neg hf, if_neg (fun z => z.elim he hf)]
        refine mGo_if ok rfl (fun h2 => ?_) (fun h2 => ?_)
        · refine mGo_run (n := 400) ok rfl ?_
          first | rw [s1, u1] | rw [s1]
          refine mGo_if ok rfl (fun h3 => ?_) (fun h3 => ?_)
          · have h3 : (S 1).1 = (S 0).1 := h3
            rw [if_pos h3]
            refine mGo_run (n := 400) ok rfl ?_
            refine mGo_callP ok rfl (by omega) (c_covers36 (d := d) s2 i c) ?_
            cases hc : covB (S 1).2 i c with
            | false =>
              rw [if_neg (fun z => by cases z.1)]
              refine mGo_if ok rfl (fun h4 => ?_) (fun h4 => ?_)
              · refine mGo_run (n := 400) ok rfl ?_
                exact mGo_ret ok rfl trivial (⟨rfl, rfl, Or.inr ⟨fun z => (by cases z.2.2.1), rfl⟩⟩)
              · exact absurd rfl h4
            | true =>
              refine mGo_if ok rfl (fun h4 => ?_) (fun h4 => ?_)
              · exact absurd h4 (by decide)
              · refine mGo_run (n := 400) ok rfl ?_
                refine mGo_callP ok rfl (by omega) (c_covers32 (d := d) u2 j c) ?_
                cases hc2 : covB (S 0).2 j c with
                | false =>
                  rw [if_neg (fun z => by cases z.2)]
                  refine mGo_if ok rfl (fun h5 => ?_) (fun h5 => ?_)
                  · refine mGo_run (n := 400) ok rfl ?_
                    exact mGo_ret ok rfl trivial (⟨rfl, rfl, Or.inr ⟨fun z => (by cases z.2.2.2), rfl⟩⟩)
                  · exact absurd rfl h5
                | true =>
                  rw [if_pos ⟨rfl, rfl⟩]
                  obtain ⟨a, n, rfl, rfl, hac⟩ := (qCov_iff o1).mp (covB_iff.mp hc)
                  obtain ⟨a2, n2, rfl, hn2, hac2⟩ := (qCov_iff p1).mp (covB_iff.mp hc2)
                  have e : n = n2 := (nI_eq (by omega) (by omega)).mp hn2
                  subst e
                  refine mGo_if ok rfl (fun h5 => ?_) (fun h5 => ?_)
                  · exact absurd h5 (by decide)
                  · refine mGo_run (n := 400) ok rfl ?_
                    refine mGo_callV ok rfl (by omega) (c_copyTo36_32 (d := d) o1 p1 s2 u2 hac hac2) (fun τ hτ => ?_)
                    refine mGo_run (n := 400) ok rfl ?_
                    exact mGo_ret ok rfl trivial (⟨rfl, rfl, Or.inl ⟨a, a2, n, rfl, rfl, rfl, hac, hac2, he, h3, hτ⟩⟩)
          · have h3 : ¬ (S 1).1 = (S 0).1 := h3
            rw [if_neg h3]
            refine mGo_run (n := 400) ok rfl ?_
            exact mGo_ret ok rfl trivial (⟨rfl, rfl, Or.inr ⟨fun z => h3 z.2.1, rfl⟩⟩)
        · exact absurd rfl h2
    · exact absurd rfl h1
theorem c_copyTo36_36 {n n2 a a2 k : Nat} (hn : n ≤ 40) (hn2 : n2 ≤ 40) (hl : σ.1 36 4 = nI n) (hl2 : σ.1 36 4 = nI n2) (ha : a + k ≤ n) (ha2 : a2 + k ≤ n2) : mNV g l (d + 1) 58 [.ref 36, .int (nI a), .ref 36, .int (nI a2), .int (nI k)] lk ex σ (fun σ1 => cpP 36 36 a a2 k σ σ1) := by
  have ok : mOkP md_X5_copyTo := ok_at 58 (by decide) rfl
  refine mC_of (md := md_X5_copyTo) rfl (lt_at (by decide)) rfl ?_
  refine mGo_run (n := 400) ok rfl ?_
  refine mGo_callP ok rfl (by omega) (c_covers36 (d := d) hl (nI a) (nI k)) ?_
  rw [covB_iff.mpr ((qCov_iff hn).mpr ⟨a, k, rfl, rfl, ha⟩)]
  refine mGo_if ok rfl (fun h => ?_) (fun h => ?_)
  · exact absurd h (by decide)
  · clear h
    refine mGo_run (n := 400) ok rfl ?_
    refine mGo_callP ok rfl (by omega) (c_covers36 (d := d) hl2 (nI a2) (nI k)) ?_
    rw [covB_iff.mpr ((qCov_iff hn2).mpr ⟨a2, k, rfl, rfl, ha2⟩)]
    refine mGo_if ok rfl (fun h => ?_) (fun h => ?_)
    · exact absurd h (by decide)
    · clear h
      refine mGo_run (n := 400) ok rfl ?_
      refine mGo_cpL ok rfl cp_link2 (q0 := 37) (q1 := 37) rfl rfl (by omega) (by omega) (by omega) (by omega) ⟨by decide, by decide⟩ (by omega) ?_
      refine mGo_run (n := 400) ok rfl ?_
      refine mGo_cpD ok rfl cp_link2 (q0 := 38) (q1 := 38) rfl rfl (by omega) (by omega) (by omega) (by omega) ⟨by decide, by decide⟩ (by omega) ?_
      refine mGo_run (n := 400) ok rfl ?_
      refine mGo_cpI ok rfl cp_link2 (q0 := 39) (q1 := 39) rfl rfl (by omega) (by omega) (by omega) (by omega) ⟨by decide, by decide⟩ (by omega) ?_
      refine mGo_run (n := 400) ok rfl ?_
      refine mGo_ret ok rfl trivial ⟨rfl, rfl, fun i hi => ⟨?_, ?_, ?_⟩, fun j => ?_, fun j => ?_, fun j => ?_⟩
      · exact if_neg (fun z => hi ⟨by omega, by omega⟩)
      · exact if_neg (fun z => hi ⟨by omega, by omega⟩)
      · exact if_neg (fun z => hi ⟨by omega, by omega⟩)
      · show (if (37 : Nat) = 37 then va_cpy (σ.2.1 37) (σ.2.1 37) a a2 k else σ.2.1 37) j = _
        rw [if_pos rfl, cpy_at]
      · show (if (38 : Nat) = 38 then va_cpy (σ.2.2 38) (σ.2.2 38) a a2 k else σ.2.2 38) j = _
        rw [if_pos rfl, cpy_at]
      · show (if (39 : Nat) = 39 then va_cpy (σ.1 39) (σ.1 39) a a2 k else σ.1 39) j = _
        rw [if_pos rfl, cpy_at]
theorem x_copyElements36_36 (hO : sOk S) (hS : cSl σ S) (i j c : Int32) : mNR g l (d + 2) 108 [.ref 0, .int (nI 1), .int i, .int (nI 1), .int j, .int c] lk ex σ (.int (if (S 1).1 = -1 ∨ (S 1).1 = -1 then -11 else if (S 1).1 = (S 1).1 then (if covB (S 1).2 i c = true ∧ covB (S 1).2 j c = true then c else -13) else -12)) (fun σ1 => (∃ a a2 n, i = nI a ∧ j = nI a2 ∧ c = nI n ∧ a + n ≤ (S 1).2 ∧ a2 + n ≤ (S 1).2 ∧ (S 1).1 ≠ -1 ∧ (S 1).1 = (S 1).1 ∧ cpP 36 36 a a2 n σ σ1) ∨ (¬ ((S 1).1 ≠ -1 ∧ (S 1).1 = (S 1).1 ∧ covB (S 1).2 i c = true ∧ covB (S 1).2 j c = true) ∧ σ1 = σ)) := by
  obtain ⟨s1, s2⟩ := hS 1 (by omega)
  obtain ⟨o1, -⟩ := hO 1 (by omega)
  obtain ⟨u1, u2⟩ := hS 1 (by omega)
  obtain ⟨p1, -⟩ := hO 1 (by omega)
  have s1 : σ.1 36 3 = (S 1).1 := s1
  have s2 : σ.1 36 4 = nI (S 1).2 := s2
  have u1 : σ.1 36 3 = (S 1).1 := u1
  have u2 : σ.1 36 4 = nI (S 1).2 := u2
  have ok : mOkP md_X8_copyElements := ok_at 108 (by decide) rfl
  refine mC_of (md := md_X8_copyElements) rfl (lt_at (by decide)) rfl ?_
  refine mGo_run (n := 400) ok rfl ?_
  refine mGo_callP ok rfl (by omega) (c_slotAt36 (d := d)) ?_
  refine mGo_run (n := 400) ok rfl ?_
  refine mGo_callP ok rfl (by omega) (c_slotAt36 (d := d)) ?_
  refine mGo_run (n := 400) ok rfl ?_
  refine mGo_callP ok rfl (by omega) (c_isEmpty36 (d := d)) ?_
  rw [s1]
  by_cases he : (S 1).1 = -1
  · rw [if_pos he, if_pos (Or.inl he)]
    refine mGo_if ok rfl (fun h1 => ?_) (fun h1 => ?_)
    · exact absurd h1 (by decide)
    · refine mGo_run (n := 400) ok rfl ?_
      exact mGo_ret ok rfl trivial (⟨rfl, rfl, Or.inr ⟨fun z => z.1 he, rfl⟩⟩)
  · rw [if_neg he]
    refine mGo_if ok rfl (fun h1 => ?_) (fun h1 => ?_)
    · refine mGo_run (n := 400) ok rfl ?_
      refine mGo_callP ok rfl (by omega) (c_isEmpty36 (d := d)) ?_
      rw [u1]
      by_cases hf : (S 1).1 = -1
      · rw [if_pos hf, if_pos (Or.inr hf)]
        refine mGo_if ok rfl (fun h2 => ?_) (fun h2 => ?_)
        · exact absurd h2 (by decide)
        · refine mGo_run (n := 400) ok rfl ?_
          exact mGo_ret ok rfl trivial (⟨rfl, rfl, Or.inr ⟨fun z => z.1 (z.2.1.trans hf), rfl⟩⟩)
      · rw [if_neg hf, if_neg (fun z => z.elim he hf)]
        refine mGo_if ok rfl (fun h2 => ?_) (fun h2 => ?_)
        · refine mGo_run (n := 400) ok rfl ?_
          first | rw [s1, u1] | rw [s1]
          refine mGo_if ok rfl (fun h3 => ?_) (fun h3 => ?_)
          · have h3 : (S 1).1 = (S 1).1 := h3
            rw [if_pos h3]
            refine mGo_run (n := 400) ok rfl ?_
            refine mGo_callP ok rfl (by omega) (c_covers36 (d := d) s2 i c) ?_
            cases hc : covB (S 1).2 i c with
            | false =>
              rw [if_neg (fun z => by cases z.1)]
              refine mGo_if ok rfl (fun h4 => ?_) (fun h4 => ?_)
              · refine mGo_run (n := 400) ok rfl ?_
                exact mGo_ret ok rfl trivial (⟨rfl, rfl, Or.inr ⟨fun z => (by cases z.2.2.1), rfl⟩⟩)
              · exact absurd rfl h4
            | true =>
              refine mGo_if ok rfl (fun h4 => ?_) (fun h4 => ?_)
              · exact absurd h4 (by decide)
              · refine mGo_run (n := 400) ok rfl ?_
                refine mGo_callP ok rfl (by omega) (c_covers36 (d := d) u2 j c) ?_
                cases hc2 : covB (S 1).2 j c with
                | false =>
                  rw [if_neg (fun z => by cases z.2)]
                  refine mGo_if ok rfl (fun h5 => ?_) (fun h5 => ?_)
                  · refine mGo_run (n := 400) ok rfl ?_
                    exact mGo_ret ok rfl trivial (⟨rfl, rfl, Or.inr ⟨fun z => (by cases z.2.2.2), rfl⟩⟩)
                  · exact absurd rfl h5
                | true =>
                  rw [if_pos ⟨rfl, rfl⟩]
                  obtain ⟨a, n, rfl, rfl, hac⟩ := (qCov_iff o1).mp (covB_iff.mp hc)
                  obtain ⟨a2, n2, rfl, hn2, hac2⟩ := (qCov_iff p1).mp (covB_iff.mp hc2)
                  have e : n = n2 := (nI_eq (by omega) (by omega)).mp hn2
                  subst e
                  refine mGo_if ok rfl (fun h5 => ?_) (fun h5 => ?_)
                  · exact absurd h5 (by decide)
                  · refine mGo_run (n := 400) ok rfl ?_
                    refine mGo_callV ok rfl (by omega) (c_copyTo36_36 (d := d) o1 p1 s2 u2 hac hac2) (fun τ hτ => ?_)
                    refine mGo_run (n := 400) ok rfl ?_
                    exact mGo_ret ok rfl trivial (⟨rfl, rfl, Or.inl ⟨a, a2, n, rfl, rfl, rfl, hac, hac2, he, h3, hτ⟩⟩)
          · have h3 : ¬ (S 1).1 = (S 1).1 := h3
            rw [if_neg h3]
            refine mGo_run (n := 400) ok rfl ?_
            exact mGo_ret ok rfl trivial (⟨rfl, rfl, Or.inr ⟨fun z => h3 z.2.1, rfl⟩⟩)
        · exact absurd rfl h2
    · exact absurd rfl h1
theorem c_copyTo36_40 {n n2 a a2 k : Nat} (hn : n ≤ 40) (hn2 : n2 ≤ 40) (hl : σ.1 36 4 = nI n) (hl2 : σ.1 40 4 = nI n2) (ha : a + k ≤ n) (ha2 : a2 + k ≤ n2) : mNV g l (d + 1) 58 [.ref 36, .int (nI a), .ref 40, .int (nI a2), .int (nI k)] lk ex σ (fun σ1 => cpP 36 40 a a2 k σ σ1) := by
  have ok : mOkP md_X5_copyTo := ok_at 58 (by decide) rfl
  refine mC_of (md := md_X5_copyTo) rfl (lt_at (by decide)) rfl ?_
  refine mGo_run (n := 400) ok rfl ?_
  refine mGo_callP ok rfl (by omega) (c_covers36 (d := d) hl (nI a) (nI k)) ?_
  rw [covB_iff.mpr ((qCov_iff hn).mpr ⟨a, k, rfl, rfl, ha⟩)]
  refine mGo_if ok rfl (fun h => ?_) (fun h => ?_)
  · exact absurd h (by decide)
  · clear h
    refine mGo_run (n := 400) ok rfl ?_
    refine mGo_callP ok rfl (by omega) (c_covers40 (d := d) hl2 (nI a2) (nI k)) ?_
    rw [covB_iff.mpr ((qCov_iff hn2).mpr ⟨a2, k, rfl, rfl, ha2⟩)]
    refine mGo_if ok rfl (fun h => ?_) (fun h => ?_)
    · exact absurd h (by decide)
    · clear h
      refine mGo_run (n := 400) ok rfl ?_
      refine mGo_cpL ok rfl cp_link2 (q0 := 37) (q1 := 41) rfl rfl (by omega) (by omega) (by omega) (by omega) ⟨by decide, by decide⟩ (by omega) ?_
      refine mGo_run (n := 400) ok rfl ?_
      refine mGo_cpD ok rfl cp_link2 (q0 := 38) (q1 := 42) rfl rfl (by omega) (by omega) (by omega) (by omega) ⟨by decide, by decide⟩ (by omega) ?_
      refine mGo_run (n := 400) ok rfl ?_
      refine mGo_cpI ok rfl cp_link2 (q0 := 39) (q1 := 43) rfl rfl (by omega) (by omega) (by omega) (by omega) ⟨by decide, by decide⟩ (by omega) ?_
      refine mGo_run (n := 400) ok rfl ?_
      refine mGo_ret ok rfl trivial ⟨rfl, rfl, fun i hi => ⟨?_, ?_, ?_⟩, fun j => ?_, fun j => ?_, fun j => ?_⟩
      · exact if_neg (fun z => hi ⟨by omega, by omega⟩)
      · exact if_neg (fun z => hi ⟨by omega, by omega⟩)
      · exact if_neg (fun z => hi ⟨by omega, by omega⟩)
      · show (if (41 : Nat) = 41 then va_cpy (σ.2.1 37) (σ.2.1 41) a a2 k else σ.2.1 41) j = _
        rw [if_pos rfl, cpy_at]
      · show (if (42 : Nat) = 42 then va_cpy (σ.2.2 38) (σ.2.2 42) a a2 k else σ.2.2 42) j = _
        rw [if_pos rfl, cpy_at]
      · show (if (43 : Nat) = 43 then va_cpy (σ.1 39) (σ.1 43) a a2 k else σ.1 43) j = _
        rw [if_pos rfl, cpy_at]
theorem x_copyElements36_40 (hO : sOk S) (hS : cSl σ S) (i j c : Int32) : mNR g l (d + 2) 108 [.ref 0, .int (nI 1), .int i, .int (nI 2), .int j, .int c] lk ex σ (.int (if (S 1).1 = -1 ∨ (S 2).1 = -1 then -11 else if (S 1).1 = (S 2).1 then (if covB (S 1).2 i c = true ∧ covB (S 2).2 j c = true then c else -13) else -12)) (fun σ1 => (∃ a a2 n, i = nI a ∧ j = nI a2 ∧ c = nI n ∧ a + n ≤ (S 1).2 ∧ a2 + n ≤ (S 2).2 ∧ (S 1).1 ≠ -1 ∧ (S 1).1 = (S 2).1 ∧ cpP 36 40 a a2 n σ σ1) ∨ (¬ ((S 1).1 ≠ -1 ∧ (S 1).1 = (S 2).1 ∧ covB (S 1).2 i c = true ∧ covB (S 2).2 j c = true) ∧ σ1 = σ)) := by
  obtain ⟨s1, s2⟩ := hS 1 (by omega)
  obtain ⟨o1, -⟩ := hO 1 (by omega)
  obtain ⟨u1, u2⟩ := hS 2 (by omega)
  obtain ⟨p1, -⟩ := hO 2 (by omega)
  have s1 : σ.1 36 3 = (S 1).1 := s1
  have s2 : σ.1 36 4 = nI (S 1).2 := s2
  have u1 : σ.1 40 3 = (S 2).1 := u1
  have u2 : σ.1 40 4 = nI (S 2).2 := u2
  have ok : mOkP md_X8_copyElements := ok_at 108 (by decide) rfl
  refine mC_of (md := md_X8_copyElements) rfl (lt_at (by decide)) rfl ?_
  refine mGo_run (n := 400) ok rfl ?_
  refine mGo_callP ok rfl (by omega) (c_slotAt36 (d := d)) ?_
  refine mGo_run (n := 400) ok rfl ?_
  refine mGo_callP ok rfl (by omega) (c_slotAt40 (d := d)) ?_
  refine mGo_run (n := 400) ok rfl ?_
  refine mGo_callP ok rfl (by omega) (c_isEmpty36 (d := d)) ?_
  rw [s1]
  by_cases he : (S 1).1 = -1
  · rw [if_pos he, if_pos (Or.inl he)]
    refine mGo_if ok rfl (fun h1 => ?_) (fun h1 => ?_)
    · exact absurd h1 (by decide)
    · refine mGo_run (n := 400) ok rfl ?_
      exact mGo_ret ok rfl trivial (⟨rfl, rfl, Or.inr ⟨fun z => z.1 he, rfl⟩⟩)
  · rw [if_neg he]
    refine mGo_if ok rfl (fun h1 => ?_) (fun h1 => ?_)
    · refine mGo_run (n := 400) ok rfl ?_
      refine mGo_callP ok rfl (by omega) (c_isEmpty40 (d := d)) ?_
      rw [u1]
      by_cases hf : (S 2).1 = -1
      · rw [if_pos hf, if_pos (Or.inr hf)]
        refine mGo_if ok rfl (fun h2 => ?_) (fun h2 => ?_)
        · exact absurd h2 (by decide)
        · refine mGo_run (n := 400) ok rfl ?_
          exact mGo_ret ok rfl trivial (⟨rfl, rfl, Or.inr ⟨fun z => z.1 (z.2.1.trans hf), rfl⟩⟩)
      · rw [if_neg hf, if_neg (fun z => z.elim he hf)]
        refine mGo_if ok rfl (fun h2 => ?_) (fun h2 => ?_)
        · refine mGo_run (n := 400) ok rfl ?_
          first | rw [s1, u1] | rw [s1]
          refine mGo_if ok rfl (fun h3 => ?_) (fun h3 => ?_)
          · have h3 : (S 1).1 = (S 2).1 := h3
            rw [if_pos h3]
            refine mGo_run (n := 400) ok rfl ?_
            refine mGo_callP ok rfl (by omega) (c_covers36 (d := d) s2 i c) ?_
            cases hc : covB (S 1).2 i c with
            | false =>
              rw [if_neg (fun z => by cases z.1)]
              refine mGo_if ok rfl (fun h4 => ?_) (fun h4 => ?_)
              · refine mGo_run (n := 400) ok rfl ?_
                exact mGo_ret ok rfl trivial (⟨rfl, rfl, Or.inr ⟨fun z => (by cases z.2.2.1), rfl⟩⟩)
              · exact absurd rfl h4
            | true =>
              refine mGo_if ok rfl (fun h4 => ?_) (fun h4 => ?_)
              · exact absurd h4 (by decide)
              · refine mGo_run (n := 400) ok rfl ?_
                refine mGo_callP ok rfl (by omega) (c_covers40 (d := d) u2 j c) ?_
                cases hc2 : covB (S 2).2 j c with
                | false =>
                  rw [if_neg (fun z => by cases z.2)]
                  refine mGo_if ok rfl (fun h5 => ?_) (fun h5 => ?_)
                  · refine mGo_run (n := 400) ok rfl ?_
                    exact mGo_ret ok rfl trivial (⟨rfl, rfl, Or.inr ⟨fun z => (by cases z.2.2.2), rfl⟩⟩)
                  · exact absurd rfl h5
                | true =>
                  rw [if_pos ⟨rfl, rfl⟩]
                  obtain ⟨a, n, rfl, rfl, hac⟩ := (qCov_iff o1).mp (covB_iff.mp hc)
                  obtain ⟨a2, n2, rfl, hn2, hac2⟩ := (qCov_iff p1).mp (covB_iff.mp hc2)
                  have e : n = n2 := (nI_eq (by omega) (by omega)).mp hn2
                  subst e
                  refine mGo_if ok rfl (fun h5 => ?_) (fun h5 => ?_)
                  · exact absurd h5 (by decide)
                  · refine mGo_run (n := 400) ok rfl ?_
                    refine mGo_callV ok rfl (by omega) (c_copyTo36_40 (d := d) o1 p1 s2 u2 hac hac2) (fun τ hτ => ?_)
                    refine mGo_run (n := 400) ok rfl ?_
                    exact mGo_ret ok rfl trivial (⟨rfl, rfl, Or.inl ⟨a, a2, n, rfl, rfl, rfl, hac, hac2, he, h3, hτ⟩⟩)
          · have h3 : ¬ (S 1).1 = (S 2).1 := h3
            rw [if_neg h3]
            refine mGo_run (n := 400) ok rfl ?_
            exact mGo_ret ok rfl trivial (⟨rfl, rfl, Or.inr ⟨fun z => h3 z.2.1, rfl⟩⟩)
        · exact absurd rfl h2
    · exact absurd rfl h1
theorem c_copyTo36_44 {n n2 a a2 k : Nat} (hn : n ≤ 40) (hn2 : n2 ≤ 40) (hl : σ.1 36 4 = nI n) (hl2 : σ.1 44 4 = nI n2) (ha : a + k ≤ n) (ha2 : a2 + k ≤ n2) : mNV g l (d + 1) 58 [.ref 36, .int (nI a), .ref 44, .int (nI a2), .int (nI k)] lk ex σ (fun σ1 => cpP 36 44 a a2 k σ σ1) := by
  have ok : mOkP md_X5_copyTo := ok_at 58 (by decide) rfl
  refine mC_of (md := md_X5_copyTo) rfl (lt_at (by decide)) rfl ?_
  refine mGo_run (n := 400) ok rfl ?_
  refine mGo_callP ok rfl (by omega) (c_covers36 (d := d) hl (nI a) (nI k)) ?_
  rw [covB_iff.mpr ((qCov_iff hn).mpr ⟨a, k, rfl, rfl, ha⟩)]
  refine mGo_if ok rfl (fun h => ?_) (fun h => ?_)
  · exact absurd h (by decide)
  · clear h
    refine mGo_run (n := 400) ok rfl ?_
    refine mGo_callP ok rfl (by omega) (c_covers44 (d := d) hl2 (nI a2) (nI k)) ?_
    rw [covB_iff.mpr ((qCov_iff hn2).mpr ⟨a2, k, rfl, rfl, ha2⟩)]
    refine mGo_if ok rfl (fun h => ?_) (fun h => ?_)
    · exact absurd h (by decide)
    · clear h
      refine mGo_run (n := 400) ok rfl ?_
      refine mGo_cpL ok rfl cp_link2 (q0 := 37) (q1 := 45) rfl rfl (by omega) (by omega) (by omega) (by omega) ⟨by decide, by decide⟩ (by omega) ?_
      refine mGo_run (n := 400) ok rfl ?_
      refine mGo_cpD ok rfl cp_link2 (q0 := 38) (q1 := 46) rfl rfl (by omega) (by omega) (by omega) (by omega) ⟨by decide, by decide⟩ (by omega) ?_
      refine mGo_run (n := 400) ok rfl ?_
      refine mGo_cpI ok rfl cp_link2 (q0 := 39) (q1 := 47) rfl rfl (by omega) (by omega) (by omega) (by omega) ⟨by decide, by decide⟩ (by omega) ?_
      refine mGo_run (n := 400) ok rfl ?_
      refine mGo_ret ok rfl trivial ⟨rfl, rfl, fun i hi => ⟨?_, ?_, ?_⟩, fun j => ?_, fun j => ?_, fun j => ?_⟩
      · exact if_neg (fun z => hi ⟨by omega, by omega⟩)
      · exact if_neg (fun z => hi ⟨by omega, by omega⟩)
      · exact if_neg (fun z => hi ⟨by omega, by omega⟩)
      · show (if (45 : Nat) = 45 then va_cpy (σ.2.1 37) (σ.2.1 45) a a2 k else σ.2.1 45) j = _
        rw [if_pos rfl, cpy_at]
      · show (if (46 : Nat) = 46 then va_cpy (σ.2.2 38) (σ.2.2 46) a a2 k else σ.2.2 46) j = _
        rw [if_pos rfl, cpy_at]
      · show (if (47 : Nat) = 47 then va_cpy (σ.1 39) (σ.1 47) a a2 k else σ.1 47) j = _
        rw [if_pos rfl, cpy_at]
theorem x_copyElements36_44 (hO : sOk S) (hS : cSl σ S) (i j c : Int32) : mNR g l (d + 2) 108 [.ref 0, .int (nI 1), .int i, .int (nI 3), .int j, .int c] lk ex σ (.int (if (S 1).1 = -1 ∨ (S 3).1 = -1 then -11 else if (S 1).1 = (S 3).1 then (if covB (S 1).2 i c = true ∧ covB (S 3).2 j c = true then c else -13) else -12)) (fun σ1 => (∃ a a2 n, i = nI a ∧ j = nI a2 ∧ c = nI n ∧ a + n ≤ (S 1).2 ∧ a2 + n ≤ (S 3).2 ∧ (S 1).1 ≠ -1 ∧ (S 1).1 = (S 3).1 ∧ cpP 36 44 a a2 n σ σ1) ∨ (¬ ((S 1).1 ≠ -1 ∧ (S 1).1 = (S 3).1 ∧ covB (S 1).2 i c = true ∧ covB (S 3).2 j c = true) ∧ σ1 = σ)) := by
  obtain ⟨s1, s2⟩ := hS 1 (by omega)
  obtain ⟨o1, -⟩ := hO 1 (by omega)
  obtain ⟨u1, u2⟩ := hS 3 (by omega)
  obtain ⟨p1, -⟩ := hO 3 (by omega)
  have s1 : σ.1 36 3 = (S 1).1 := s1
  have s2 : σ.1 36 4 = nI (S 1).2 := s2
  have u1 : σ.1 44 3 = (S 3).1 := u1
  have u2 : σ.1 44 4 = nI (S 3).2 := u2
  have ok : mOkP md_X8_copyElements := ok_at 108 (by decide) rfl
  refine mC_of (md := md_X8_copyElements) rfl (lt_at (by decide)) rfl ?_
  refine mGo_run (n := 400) ok rfl ?_
  refine mGo_callP ok rfl (by omega) (c_slotAt36 (d := d)) ?_
  refine mGo_run (n := 400) ok rfl ?_
  refine mGo_callP ok rfl (by omega) (c_slotAt44 (d := d)) ?_
  refine mGo_run (n := 400) ok rfl ?_
  refine mGo_callP ok rfl (by omega) (c_isEmpty36 (d := d)) ?_
  rw [s1]
  by_cases he : (S 1).1 = -1
  · rw [if_pos he, if_pos (Or.inl he)]
    refine mGo_if ok rfl (fun h1 => ?_) (fun h1 => ?_)
    · exact absurd h1 (by decide)
    · refine mGo_run (n := 400) ok rfl ?_
      exact mGo_ret ok rfl trivial (⟨rfl, rfl, Or.inr ⟨fun z => z.1 he, rfl⟩⟩)
  · rw [if_neg he]
    refine mGo_if ok rfl (fun h1 => ?_) (fun h1 => ?_)
    · refine mGo_run (n := 400) ok rfl ?_
      refine mGo_callP ok rfl (by omega) (c_isEmpty44 (d := d)) ?_
      rw [u1]
      by_cases hf : (S 3).1 = -1
      · rw [if_pos hf, if_pos (Or.inr hf)]
        refine mGo_if ok rfl (fun h2 => ?_) (fun h2 => ?_)
        · exact absurd h2 (by decide)
        · refine mGo_run (n := 400) ok rfl ?_
          exact mGo_ret ok rfl trivial (⟨rfl, rfl, Or.inr ⟨fun z => z.1 (z.2.1.trans hf), rfl⟩⟩)
      · rw [if_neg hf, if_neg (fun z => z.elim he hf)]
        refine mGo_if ok rfl (fun h2 => ?_) (fun h2 => ?_)
        · refine mGo_run (n := 400) ok rfl ?_
          first | rw [s1, u1] | rw [s1]
          refine mGo_if ok rfl (fun h3 => ?_) (fun h3 => ?_)
          · have h3 : (S 1).1 = (S 3).1 := h3
            rw [if_pos h3]
            refine mGo_run (n := 400) ok rfl ?_
            refine mGo_callP ok rfl (by omega) (c_covers36 (d := d) s2 i c) ?_
            cases hc : covB (S 1).2 i c with
            | false =>
              rw [if_neg (fun z => by cases z.1)]
              refine mGo_if ok rfl (fun h4 => ?_) (fun h4 => ?_)
              · refine mGo_run (n := 400) ok rfl ?_
                exact mGo_ret ok rfl trivial (⟨rfl, rfl, Or.inr ⟨fun z => (by cases z.2.2.1), rfl⟩⟩)
              · exact absurd rfl h4
            | true =>
              refine mGo_if ok rfl (fun h4 => ?_) (fun h4 => ?_)
              · exact absurd h4 (by decide)
              · refine mGo_run (n := 400) ok rfl ?_
                refine mGo_callP ok rfl (by omega) (c_covers44 (d := d) u2 j c) ?_
                cases hc2 : covB (S 3).2 j c with
                | false =>
                  rw [if_neg (fun z => by cases z.2)]
                  refine mGo_if ok rfl (fun h5 => ?_) (fun h5 => ?_)
                  · refine mGo_run (n := 400) ok rfl ?_
                    exact mGo_ret ok rfl trivial (⟨rfl, rfl, Or.inr ⟨fun z => (by cases z.2.2.2), rfl⟩⟩)
                  · exact absurd rfl h5
                | true =>
                  rw [if_pos ⟨rfl, rfl⟩]
                  obtain ⟨a, n, rfl, rfl, hac⟩ := (qCov_iff o1).mp (covB_iff.mp hc)
                  obtain ⟨a2, n2, rfl, hn2, hac2⟩ := (qCov_iff p1).mp (covB_iff.mp hc2)
                  have e : n = n2 := (nI_eq (by omega) (by omega)).mp hn2
                  subst e
                  refine mGo_if ok rfl (fun h5 => ?_) (fun h5 => ?_)
                  · exact absurd h5 (by decide)
                  · refine mGo_run (n := 400) ok rfl ?_
                    refine mGo_callV ok rfl (by omega) (c_copyTo36_44 (d := d) o1 p1 s2 u2 hac hac2) (fun τ hτ => ?_)
                    refine mGo_run (n := 400) ok rfl ?_
                    exact mGo_ret ok rfl trivial (⟨rfl, rfl, Or.inl ⟨a, a2, n, rfl, rfl, rfl, hac, hac2, he, h3, hτ⟩⟩)
          · have h3 : ¬ (S 1).1 = (S 3).1 := h3
            rw [if_neg h3]
            refine mGo_run (n := 400) ok rfl ?_
            exact mGo_ret ok rfl trivial (⟨rfl, rfl, Or.inr ⟨fun z => h3 z.2.1, rfl⟩⟩)
        · exact absurd rfl h2
    · exact absurd rfl h1
theorem x_copyElementsN36 {u : Int32} (hu : ¬ ∃ k, k < 4 ∧ u = nI k) (i j c : Int32) : mNP g l (d + 2) 108 [.ref 0, .int (nI 1), .int i, .int u, .int j, .int c] lk ex σ (.int (-1)) := by
  have ok : mOkP md_X8_copyElements := ok_at 108 (by decide) rfl
  refine mC_of (md := md_X8_copyElements) rfl (lt_at (by decide)) rfl ?_
  refine mGo_run (n := 400) ok rfl ?_
  refine mGo_callP ok rfl (by omega) (c_slotAt36 (d := d)) ?_
  refine mGo_run (n := 400) ok rfl ?_
  refine mGo_callP ok rfl (by omega) (c_slotAt0 (d := d) hu) ?_
  refine mGo_run (n := 400) ok rfl ?_
  exact mGo_ret ok rfl trivial (⟨rfl, rfl, rfl⟩)
theorem x_copyElementsM36 {s : Int32} (hs : ¬ ∃ k, k < 4 ∧ s = nI k) (i j c : Int32) : mNP g l (d + 2) 108 [.ref 0, .int s, .int i, .int (nI 1), .int j, .int c] lk ex σ (.int (-1)) := by
  have ok : mOkP md_X8_copyElements := ok_at 108 (by decide) rfl
  refine mC_of (md := md_X8_copyElements) rfl (lt_at (by decide)) rfl ?_
  refine mGo_run (n := 400) ok rfl ?_
  refine mGo_callP ok rfl (by omega) (c_slotAt0 (d := d) hs) ?_
  refine mGo_run (n := 400) ok rfl ?_
  refine mGo_callP ok rfl (by omega) (c_slotAt36 (d := d)) ?_
  refine mGo_run (n := 400) ok rfl ?_
  exact mGo_ret ok rfl trivial (⟨rfl, rfl, rfl⟩)
theorem c_copyTo40_32 {n n2 a a2 k : Nat} (hn : n ≤ 40) (hn2 : n2 ≤ 40) (hl : σ.1 40 4 = nI n) (hl2 : σ.1 32 4 = nI n2) (ha : a + k ≤ n) (ha2 : a2 + k ≤ n2) : mNV g l (d + 1) 58 [.ref 40, .int (nI a), .ref 32, .int (nI a2), .int (nI k)] lk ex σ (fun σ1 => cpP 40 32 a a2 k σ σ1) := by
  have ok : mOkP md_X5_copyTo := ok_at 58 (by decide) rfl
  refine mC_of (md := md_X5_copyTo) rfl (lt_at (by decide)) rfl ?_
  refine mGo_run (n := 400) ok rfl ?_
  refine mGo_callP ok rfl (by omega) (c_covers40 (d := d) hl (nI a) (nI k)) ?_
  rw [covB_iff.mpr ((qCov_iff hn).mpr ⟨a, k, rfl, rfl, ha⟩)]
  refine mGo_if ok rfl (fun h => ?_) (fun h => ?_)
  · exact absurd h (by decide)
  · clear h
    refine mGo_run (n := 400) ok rfl ?_
    refine mGo_callP ok rfl (by omega) (c_covers32 (d := d) hl2 (nI a2) (nI k)) ?_
    rw [covB_iff.mpr ((qCov_iff hn2).mpr ⟨a2, k, rfl, rfl, ha2⟩)]
    refine mGo_if ok rfl (fun h => ?_) (fun h => ?_)
    · exact absurd h (by decide)
    · clear h
      refine mGo_run (n := 400) ok rfl ?_
      refine mGo_cpL ok rfl cp_link2 (q0 := 41) (q1 := 33) rfl rfl (by omega) (by omega) (by omega) (by omega) ⟨by decide, by decide⟩ (by omega) ?_
      refine mGo_run (n := 400) ok rfl ?_
      refine mGo_cpD ok rfl cp_link2 (q0 := 42) (q1 := 34) rfl rfl (by omega) (by omega) (by omega) (by omega) ⟨by decide, by decide⟩ (by omega) ?_
      refine mGo_run (n := 400) ok rfl ?_
      refine mGo_cpI ok rfl cp_link2 (q0 := 43) (q1 := 35) rfl rfl (by omega) (by omega) (by omega) (by omega) ⟨by decide, by decide⟩ (by omega) ?_
      refine mGo_run (n := 400) ok rfl ?_
      refine mGo_ret ok rfl trivial ⟨rfl, rfl, fun i hi => ⟨?_, ?_, ?_⟩, fun j => ?_, fun j => ?_, fun j => ?_⟩
      · exact if_neg (fun z => hi ⟨by omega, by omega⟩)
      · exact if_neg (fun z => hi ⟨by omega, by omega⟩)
      · exact if_neg (fun z => hi ⟨by omega, by omega⟩)
      · show (if (33 : Nat) = 33 then va_cpy (σ.2.1 41) (σ.2.1 33) a a2 k else σ.2.1 33) j = _
        rw [if_pos rfl, cpy_at]
      · show (if (34 : Nat) = 34 then va_cpy (σ.2.2 42) (σ.2.2 34) a a2 k else σ.2.2 34) j = _
        rw [if_pos rfl, cpy_at]
      · show (if (35 : Nat) = 35 then va_cpy (σ.1 43) (σ.1 35) a a2 k else σ.1 35) j = _
        rw [if_pos rfl, cpy_at]
theorem x_copyElements40_32 (hO : sOk S) (hS : cSl σ S) (i j c : Int32) : mNR g l (d + 2) 108 [.ref 0, .int (nI 2), .int i, .int (nI 0), .int j, .int c] lk ex σ (.int (if (S 2).1 = -1 ∨ (S 0).1 = -1 then -11 else if (S 2).1 = (S 0).1 then (if covB (S 2).2 i c = true ∧ covB (S 0).2 j c = true then c else -13) else -12)) (fun σ1 => (∃ a a2 n, i = nI a ∧ j = nI a2 ∧ c = nI n ∧ a + n ≤ (S 2).2 ∧ a2 + n ≤ (S 0).2 ∧ (S 2).1 ≠ -1 ∧ (S 2).1 = (S 0).1 ∧ cpP 40 32 a a2 n σ σ1) ∨ (¬ ((S 2).1 ≠ -1 ∧ (S 2).1 = (S 0).1 ∧ covB (S 2).2 i c = true ∧ covB (S 0).2 j c = true) ∧ σ1 = σ)) := by
  obtain ⟨s1, s2⟩ := hS 2 (by omega)
  obtain ⟨o1, -⟩ := hO 2 (by omega)
  obtain ⟨u1, u2⟩ := hS 0 (by omega)
  obtain ⟨p1, -⟩ := hO 0 (by omega)
  have s1 : σ.1 40 3 = (S 2).1 := s1
  have s2 : σ.1 40 4 = nI (S 2).2 := s2
  have u1 : σ.1 32 3 = (S 0).1 := u1
  have u2 : σ.1 32 4 = nI (S 0).2 := u2
  have ok : mOkP md_X8_copyElements := ok_at 108 (by decide) rfl
  refine mC_of (md := md_X8_copyElements) rfl (lt_at (by decide)) rfl ?_
  refine mGo_run (n := 400) ok rfl ?_
  refine mGo_callP ok rfl (by omega) (c_slotAt40 (d := d)) ?_
  refine mGo_run (n := 400) ok rfl ?_
  refine mGo_callP ok rfl (by omega) (c_slotAt32 (d := d)) ?_
  refine mGo_run (n := 400) ok rfl ?_
  refine mGo_callP ok rfl (by omega) (c_isEmpty40 (d := d)) ?_
  rw [s1]
  by_cases he : (S 2).1 = -1
  · rw [if_pos he, if_pos (Or.inl he)]
    refine mGo_if ok rfl (fun h1 => ?_) (fun h1 => ?_)
    · exact absurd h1 (by decide)
    · refine mGo_run (n := 400) ok rfl ?_
      exact mGo_ret ok rfl trivial (⟨rfl, rfl, Or.inr ⟨fun z => z.1 he, rfl⟩⟩)
  · rw [if_neg he]
    refine mGo_if ok rfl (fun h1 => ?_) (fun h1 => ?_)
    · refine mGo_run (n := 400) ok rfl ?_
      refine mGo_callP ok rfl (by omega) (c_isEmpty32 (d := d)) ?_
      rw [u1]
      by_cases hf : (S 0).1 = -1
      · rw [if_pos hf, if_pos (Or.inr hf)]
        refine mGo_if ok rfl (fun h2 => ?_) (fun h2 => ?_)
        · exact absurd h2 (by decide)
        · refine mGo_run (n := 400) ok rfl ?_
          exact mGo_ret ok rfl trivial (⟨rfl, rfl, Or.inr ⟨fun z => z.1 (z.2.1.trans hf), rfl⟩⟩)
      · rw [if_neg hf, if_neg (fun z => z.elim he hf)]
        refine mGo_if ok rfl (fun h2 => ?_) (fun h2 => ?_)
        · refine mGo_run (n := 400) ok rfl ?_
          first | rw [s1, u1] | rw [s1]
          refine mGo_if ok rfl (fun h3 => ?_) (fun h3 => ?_)
          · have h3 : (S 2).1 = (S 0).1 := h3
            rw [if_pos h3]
            refine mGo_run (n := 400) ok rfl ?_
            refine mGo_callP ok rfl (by omega) (c_covers40 (d := d) s2 i c) ?_
            cases hc : covB (S 2).2 i c with
            | false =>
              rw [if_neg (fun z => by cases z.1)]
              refine mGo_if ok rfl (fun h4 => ?_) (fun h4 => ?_)
              · refine mGo_run (n := 400) ok rfl ?_
                exact mGo_ret ok rfl trivial (⟨rfl, rfl, Or.inr ⟨fun z => (by cases z.2.2.1), rfl⟩⟩)
              · exact absurd rfl h4
            | true =>
              refine mGo_if ok rfl (fun h4 => ?_) (fun h4 => ?_)
              · exact absurd h4 (by decide)
              · refine mGo_run (n := 400) ok rfl ?_
                refine mGo_callP ok rfl (by omega) (c_covers32 (d := d) u2 j c) ?_
                cases hc2 : covB (S 0).2 j c with
                | false =>
                  rw [if_neg (fun z => by cases z.2)]
                  refine mGo_if ok rfl (fun h5 => ?_) (fun h5 => ?_)
                  · refine mGo_run (n := 400) ok rfl ?_
                    exact mGo_ret ok rfl trivial (⟨rfl, rfl, Or.inr ⟨fun z => (by cases z.2.2.2), rfl⟩⟩)
                  · exact absurd rfl h5
                | true =>
                  rw [if_pos ⟨rfl, rfl⟩]
                  obtain ⟨a, n, rfl, rfl, hac⟩ := (qCov_iff o1).mp (covB_iff.mp hc)
                  obtain ⟨a2, n2, rfl, hn2, hac2⟩ := (qCov_iff p1).mp (covB_iff.mp hc2)
                  have e : n = n2 := (nI_eq (by omega) (by omega)).mp hn2
                  subst e
                  refine mGo_if ok rfl (fun h5 => ?_) (fun h5 => ?_)
                  · exact absurd h5 (by decide)
                  · refine mGo_run (n := 400) ok rfl ?_
                    refine mGo_callV ok rfl (by omega) (c_copyTo40_32 (d := d) o1 p1 s2 u2 hac hac2) (fun τ hτ => ?_)
                    refine mGo_run (n := 400) ok rfl ?_
                    exact mGo_ret ok rfl trivial (⟨rfl, rfl, Or.inl ⟨a, a2, n, rfl, rfl, rfl, hac, hac2, he, h3, hτ⟩⟩)
          · have h3 : ¬ (S 2).1 = (S 0).1 := h3
            rw [if_neg h3]
            refine mGo_run (n := 400) ok rfl ?_
            exact mGo_ret ok rfl trivial (⟨rfl, rfl, Or.inr ⟨fun z => h3 z.2.1, rfl⟩⟩)
        · exact absurd rfl h2
    · exact absurd rfl h1
theorem c_copyTo40_36 {n n2 a a2 k : Nat} (hn : n ≤ 40) (hn2 : n2 ≤ 40) (hl : σ.1 40 4 = nI n) (hl2 : σ.1 36 4 = nI n2) (ha : a + k ≤ n) (ha2 : a2 + k ≤ n2) : mNV g l (d + 1) 58 [.ref 40, .int (nI a), .ref 36, .int (nI a2), .int (nI k)] lk ex σ (fun σ1 => cpP 40 36 a a2 k σ σ1) := by
  have ok : mOkP md_X5_copyTo := ok_at 58 (by decide) rfl
  refine mC_of (md := md_X5_copyTo) rfl (lt_at (by decide)) rfl ?_
  refine mGo_run (n := 400) ok rfl ?_
  refine mGo_callP ok rfl (by omega) (c_covers40 (d := d) hl (nI a) (nI k)) ?_
  rw [covB_iff.mpr ((qCov_iff hn).mpr ⟨a, k, rfl, rfl, ha⟩)]
  refine mGo_if ok rfl (fun h => ?_) (fun h => ?_)
  · exact absurd h (by decide)
  · clear h
    refine mGo_run (n := 400) ok rfl ?_
    refine mGo_callP ok rfl (by omega) (c_covers36 (d := d) hl2 (nI a2) (nI k)) ?_
    rw [covB_iff.mpr ((qCov_iff hn2).mpr ⟨a2, k, rfl, rfl, ha2⟩)]
    refine mGo_if ok rfl (fun h => ?_) (fun h => ?_)
    · exact absurd h (by decide)
    · clear h
      refine mGo_run (n := 400) ok rfl ?_
      refine mGo_cpL ok rfl cp_link2 (q0 := 41) (q1 := 37) rfl rfl (by omega) (by omega) (by omega) (by omega) ⟨by decide, by decide⟩ (by omega) ?_
      refine mGo_run (n := 400) ok rfl ?_
      refine mGo_cpD ok rfl cp_link2 (q0 := 42) (q1 := 38) rfl rfl (by omega) (by omega) (by omega) (by omega) ⟨by decide, by decide⟩ (by omega) ?_
      refine mGo_run (n := 400) ok rfl ?_
      refine mGo_cpI ok rfl cp_link2 (q0 := 43) (q1 := 39) rfl rfl (by omega) (by omega) (by omega) (by omega) ⟨by decide, by decide⟩ (by omega) ?_
      refine mGo_run (n := 400) ok rfl ?_
      refine mGo_ret ok rfl trivial ⟨rfl, rfl, fun i hi => ⟨?_, ?_, ?_⟩, fun j => ?_, fun j => ?_, fun j => ?_⟩
      · exact if_neg (fun z => hi ⟨by omega, by omega⟩)
      · exact if_neg (fun z => hi ⟨by omega, by omega⟩)
      · exact if_neg (fun z => hi ⟨by omega, by omega⟩)
      · show (if (37 : Nat) = 37 then va_cpy (σ.2.1 41) (σ.2.1 37) a a2 k else σ.2.1 37) j = _
        rw [if_pos rfl, cpy_at]
      · show (if (38 : Nat) = 38 then va_cpy (σ.2.2 42) (σ.2.2 38) a a2 k else σ.2.2 38) j = _
        rw [if_pos rfl, cpy_at]
      · show (if (39 : Nat) = 39 then va_cpy (σ.1 43) (σ.1 39) a a2 k else σ.1 39) j = _
        rw [if_pos rfl, cpy_at]
theorem x_copyElements40_36 (hO : sOk S) (hS : cSl σ S) (i j c : Int32) : mNR g l (d + 2) 108 [.ref 0, .int (nI 2), .int i, .int (nI 1), .int j, .int c] lk ex σ (.int (if (S 2).1 = -1 ∨ (S 1).1 = -1 then -11 else if (S 2).1 = (S 1).1 then (if covB (S 2).2 i c = true ∧ covB (S 1).2 j c = true then c else -13) else -12)) (fun σ1 => (∃ a a2 n, i = nI a ∧ j = nI a2 ∧ c = nI n ∧ a + n ≤ (S 2).2 ∧ a2 + n ≤ (S 1).2 ∧ (S 2).1 ≠ -1 ∧ (S 2).1 = (S 1).1 ∧ cpP 40 36 a a2 n σ σ1) ∨ (¬ ((S 2).1 ≠ -1 ∧ (S 2).1 = (S 1).1 ∧ covB (S 2).2 i c = true ∧ covB (S 1).2 j c = true) ∧ σ1 = σ)) := by
  obtain ⟨s1, s2⟩ := hS 2 (by omega)
  obtain ⟨o1, -⟩ := hO 2 (by omega)
  obtain ⟨u1, u2⟩ := hS 1 (by omega)
  obtain ⟨p1, -⟩ := hO 1 (by omega)
  have s1 : σ.1 40 3 = (S 2).1 := s1
  have s2 : σ.1 40 4 = nI (S 2).2 := s2
  have u1 : σ.1 36 3 = (S 1).1 := u1
  have u2 : σ.1 36 4 = nI (S 1).2 := u2
  have ok : mOkP md_X8_copyElements := ok_at 108 (by decide) rfl
  refine mC_of (md := md_X8_copyElements) rfl (lt_at (by decide)) rfl ?_
  refine mGo_run (n := 400) ok rfl ?_
  refine mGo_callP ok rfl (by omega) (c_slotAt40 (d := d)) ?_
  refine mGo_run (n := 400) ok rfl ?_
  refine mGo_callP ok rfl (by omega) (c_slotAt36 (d := d)) ?_
  refine mGo_run (n := 400) ok rfl ?_
  refine mGo_callP ok rfl (by omega) (c_isEmpty40 (d := d)) ?_
  rw [s1]
  by_cases he : (S 2).1 = -1
  · rw [if_pos he, if_pos (Or.inl he)]
    refine mGo_if ok rfl (fun h1 => ?_) (fun h1 => ?_)
    · exact absurd h1 (by decide)
    · refine mGo_run (n := 400) ok rfl ?_
      exact mGo_ret ok rfl trivial (⟨rfl, rfl, Or.inr ⟨fun z => z.1 he, rfl⟩⟩)
  · rw [if_neg he]
    refine mGo_if ok rfl (fun h1 => ?_) (fun h1 => ?_)
    · refine mGo_run (n := 400) ok rfl ?_
      refine mGo_callP ok rfl (by omega) (c_isEmpty36 (d := d)) ?_
      rw [u1]
      by_cases hf : (S 1).1 = -1
      · rw [if_pos hf, if_pos (Or.inr hf)]
        refine mGo_if ok rfl (fun h2 => ?_) (fun h2 => ?_)
        · exact absurd h2 (by decide)
        · refine mGo_run (n := 400) ok rfl ?_
          exact mGo_ret ok rfl trivial (⟨rfl, rfl, Or.inr ⟨fun z => z.1 (z.2.1.trans hf), rfl⟩⟩)
      · rw [if_neg hf, if_neg (fun z => z.elim he hf)]
        refine mGo_if ok rfl (fun h2 => ?_) (fun h2 => ?_)
        · refine mGo_run (n := 400) ok rfl ?_
          first | rw [s1, u1] | rw [s1]
          refine mGo_if ok rfl (fun h3 => ?_) (fun h3 => ?_)
          · have h3 : (S 2).1 = (S 1).1 := h3
            rw [if_pos h3]
            refine mGo_run (n := 400) ok rfl ?_
            refine mGo_callP ok rfl (by omega) (c_covers40 (d := d) s2 i c) ?_
            cases hc : covB (S 2).2 i c with
            | false =>
              rw [if_neg (fun z => by cases z.1)]
              refine mGo_if ok rfl (fun h4 => ?_) (fun h4 => ?_)
              · refine mGo_run (n := 400) ok rfl ?_
                exact mGo_ret ok rfl trivial (⟨rfl, rfl, Or.inr ⟨fun z => (by cases z.2.2.1), rfl⟩⟩)
              · exact absurd rfl h4
            | true =>
              refine mGo_if ok rfl (fun h4 => ?_) (fun h4 => ?_)
              · exact absurd h4 (by decide)
              · refine mGo_run (n := 400) ok rfl ?_
                refine mGo_callP ok rfl (by omega) (c_covers36 (d := d) u2 j c) ?_
                cases hc2 : covB (S 1).2 j c with
                | false =>
                  rw [if_neg (fun z => by cases z.2)]
                  refine mGo_if ok rfl (fun h5 => ?_) (fun h5 => ?_)
                  · refine mGo_run (n := 400) ok rfl ?_
                    exact mGo_ret ok rfl trivial (⟨rfl, rfl, Or.inr ⟨fun z => (by cases z.2.2.2), rfl⟩⟩)
                  · exact absurd rfl h5
                | true =>
                  rw [if_pos ⟨rfl, rfl⟩]
                  obtain ⟨a, n, rfl, rfl, hac⟩ := (qCov_iff o1).mp (covB_iff.mp hc)
                  obtain ⟨a2, n2, rfl, hn2, hac2⟩ := (qCov_iff p1).mp (covB_iff.mp hc2)
                  have e : n = n2 := (nI_eq (by omega) (by omega)).mp hn2
                  subst e
                  refine mGo_if ok rfl (fun h5 => ?_) (fun h5 => ?_)
                  · exact absurd h5 (by decide)
                  · refine mGo_run (n := 400) ok rfl ?_
                    refine mGo_callV ok rfl (by omega) (c_copyTo40_36 (d := d) o1 p1 s2 u2 hac hac2) (fun τ hτ => ?_)
                    refine mGo_run (n := 400) ok rfl ?_
                    exact mGo_ret ok rfl trivial (⟨rfl, rfl, Or.inl ⟨a, a2, n, rfl, rfl, rfl, hac, hac2, he, h3, hτ⟩⟩)
          · have h3 : ¬ (S 2).1 = (S 1).1 := h3
            rw [if_neg h3]
            refine mGo_run (n := 400) ok rfl ?_
            exact mGo_ret ok rfl trivial (⟨rfl, rfl, Or.inr ⟨fun z => h3 z.2.1, rfl⟩⟩)
        · exact absurd rfl h2
    · exact absurd rfl h1
theorem c_copyTo40_40 {n n2 a a2 k : Nat} (hn : n ≤ 40) (hn2 : n2 ≤ 40) (hl : σ.1 40 4 = nI n) (hl2 : σ.1 40 4 = nI n2) (ha : a + k ≤ n) (ha2 : a2 + k ≤ n2) : mNV g l (d + 1) 58 [.ref 40, .int (nI a), .ref 40, .int (nI a2), .int (nI k)] lk ex σ (fun σ1 => cpP 40 40 a a2 k σ σ1) := by
  have ok : mOkP md_X5_copyTo := ok_at 58 (by decide) rfl
  refine mC_of (md := md_X5_copyTo) rfl (lt_at (by decide)) rfl ?_
  refine mGo_run (n := 400) ok rfl ?_
  refine mGo_callP ok rfl (by omega) (c_covers40 (d := d) hl (nI a) (nI k)) ?_
  rw [covB_iff.mpr ((qCov_iff hn).mpr ⟨a, k, rfl, rfl, ha⟩)]
  refine mGo_if ok rfl (fun h => ?_) (fun h => ?_)
  · exact absurd h (by decide)
  · clear h
    refine mGo_run (n := 400) ok rfl ?_
    refine mGo_callP ok rfl (by omega) (c_covers40 (d := d) hl2 (nI a2) (nI k)) ?_
    rw [covB_iff.mpr ((qCov_iff hn2).mpr ⟨a2, k, rfl, rfl, ha2⟩)]
    refine mGo_if ok rfl (fun h => ?_) (fun h => ?_)
    · exact absurd h (by decide)
    · clear h
      refine mGo_run (n := 400) ok rfl ?_
      refine mGo_cpL ok rfl cp_link2 (q0 := 41) (q1 := 41) rfl rfl (by omega) (by omega) (by omega) (by omega) ⟨by decide, by decide⟩ (by omega) ?_
      refine mGo_run (n := 400) ok rfl ?_
      refine mGo_cpD ok rfl cp_link2 (q0 := 42) (q1 := 42) rfl rfl (by omega) (by omega) (by omega) (by omega) ⟨by decide, by decide⟩ (by omega) ?_
      refine mGo_run (n := 400) ok rfl ?_
      refine mGo_cpI ok rfl cp_link2 (q0 := 43) (q1 := 43) rfl rfl (by omega) (by omega) (by omega) (by omega) ⟨by decide, by decide⟩ (by omega) ?_
      refine mGo_run (n := 400) ok rfl ?_
      refine mGo_ret ok rfl trivial ⟨rfl, rfl, fun i hi => ⟨?_, ?_, ?_⟩, fun j => ?_, fun j => ?_, fun j => ?_⟩
      · exact if_neg (fun z => hi ⟨by omega, by omega⟩)
      · exact if_neg (fun z => hi ⟨by omega, by omega⟩)
      · exact if_neg (fun z => hi ⟨by omega, by omega⟩)
      · show (if (41 : Nat) = 41 then va_cpy (σ.2.1 41) (σ.2.1 41) a a2 k else σ.2.1 41) j = _
        rw [if_pos rfl, cpy_at]
      · show (if (42 : Nat) = 42 then va_cpy (σ.2.2 42) (σ.2.2 42) a a2 k else σ.2.2 42) j = _
        rw [if_pos rfl, cpy_at]
      · show (if (43 : Nat) = 43 then va_cpy (σ.1 43) (σ.1 43) a a2 k else σ.1 43) j = _
        rw [if_pos rfl, cpy_at]
theorem x_copyElements40_40 (hO : sOk S) (hS : cSl σ S) (i j c : Int32) : mNR g l (d + 2) 108 [.ref 0, .int (nI 2), .int i, .int (nI 2), .int j, .int c] lk ex σ (.int (if (S 2).1 = -1 ∨ (S 2).1 = -1 then -11 else if (S 2).1 = (S 2).1 then (if covB (S 2).2 i c = true ∧ covB (S 2).2 j c = true then c else -13) else -12)) (fun σ1 => (∃ a a2 n, i = nI a ∧ j = nI a2 ∧ c = nI n ∧ a + n ≤ (S 2).2 ∧ a2 + n ≤ (S 2).2 ∧ (S 2).1 ≠ -1 ∧ (S 2).1 = (S 2).1 ∧ cpP 40 40 a a2 n σ σ1) ∨ (¬ ((S 2).1 ≠ -1 ∧ (S 2).1 = (S 2).1 ∧ covB (S 2).2 i c = true ∧ covB (S 2).2 j c = true) ∧ σ1 = σ)) := by
  obtain ⟨s1, s2⟩ := hS 2 (by omega)
  obtain ⟨o1, -⟩ := hO 2 (by omega)
  obtain ⟨u1, u2⟩ := hS 2 (by omega)
  obtain ⟨p1, -⟩ := hO 2 (by omega)
  have s1 : σ.1 40 3 = (S 2).1 := s1
  have s2 : σ.1 40 4 = nI (S 2).2 := s2
  have u1 : σ.1 40 3 = (S 2).1 := u1
  have u2 : σ.1 40 4 = nI (S 2).2 := u2
  have ok : mOkP md_X8_copyElements := ok_at 108 (by decide) rfl
  refine mC_of (md := md_X8_copyElements) rfl (lt_at (by decide)) rfl ?_
  refine mGo_run (n := 400) ok rfl ?_
  refine mGo_callP ok rfl (by omega) (c_slotAt40 (d := d)) ?_
  refine mGo_run (n := 400) ok rfl ?_
  refine mGo_callP ok rfl (by omega) (c_slotAt40 (d := d)) ?_
  refine mGo_run (n := 400) ok rfl ?_
  refine mGo_callP ok rfl (by omega) (c_isEmpty40 (d := d)) ?_
  rw [s1]
  by_cases he : (S 2).1 = -1
  · rw [if_pos he, if_pos (Or.inl he)]
    refine mGo_if ok rfl (fun h1 => ?_) (fun h1 => ?_)
    · exact absurd h1 (by decide)
    · refine mGo_run (n := 400) ok rfl ?_
      exact mGo_ret ok rfl trivial (⟨rfl, rfl, Or.inr ⟨fun z => z.1 he, rfl⟩⟩)
  · rw [if_neg he]
    refine mGo_if ok rfl (fun h1 => ?_) (fun h1 => ?_)
    · refine mGo_run (n := 400) ok rfl ?_
      refine mGo_callP ok rfl (by omega) (c_isEmpty40 (d := d)) ?_
      rw [u1]
      by_cases hf : (S 2).1 = -1
      · rw [if_pos hf, if_pos (Or.inr hf)]
        refine mGo_if ok rfl (fun h2 => ?_) (fun h2 => ?_)
        · exact absurd h2 (by decide)
        · refine mGo_run (n := 400) ok rfl ?_
          exact mGo_ret ok rfl trivial (⟨rfl, rfl, Or.inr ⟨fun z => z.1 (z.2.1.trans hf), rfl⟩⟩)
      · rw [if_neg hf, if_neg (fun z => z.elim he hf)]
        refine mGo_if ok rfl (fun h2 => ?_) (fun h2 => ?_)
        · refine mGo_run (n := 400) ok rfl ?_
          first | rw [s1, u1] | rw [s1]
          refine mGo_if ok rfl (fun h3 => ?_) (fun h3 => ?_)
          · have h3 : (S 2).1 = (S 2).1 := h3
            rw [if_pos h3]
            refine mGo_run (n := 400) ok rfl ?_
            refine mGo_callP ok rfl (by omega) (c_covers40 (d := d) s2 i c) ?_
            cases hc : covB (S 2).2 i c with
            | false =>
              rw [if_neg (fun z => by cases z.1)]
              refine mGo_if ok rfl (fun h4 => ?_) (fun h4 => ?_)
              · refine mGo_run (n := 400) ok rfl ?_
                exact mGo_ret ok rfl trivial (⟨rfl, rfl, Or.inr ⟨fun z => (by cases z.2.2.1), rfl⟩⟩)
              · exact absurd rfl h4
            | true =>
              refine mGo_if ok rfl (fun h4 => ?_) (fun h4 => ?_)
              · exact absurd h4 (by decide)
              · refine mGo_run (n := 400) ok rfl ?_
                refine mGo_callP ok rfl (by omega) (c_covers40 (d := d) u2 j c) ?_
                cases hc2 : covB (S 2).2 j c with
                | false =>
                  rw [if_neg (fun z => by cases z.2)]
                  refine mGo_if ok rfl (fun h5 => ?_) (fun h5 => ?_)
                  · refine mGo_run (n := 400) ok rfl ?_
                    exact mGo_ret ok rfl trivial (⟨rfl, rfl, Or.inr ⟨fun z => (by cases z.2.2.2), rfl⟩⟩)
                  · exact absurd rfl h5
                | true =>
                  rw [if_pos ⟨rfl, rfl⟩]
                  obtain ⟨a, n, rfl, rfl, hac⟩ := (qCov_iff o1).mp (covB_iff.mp hc)
                  obtain ⟨a2, n2, rfl, hn2, hac2⟩ := (qCov_iff p1).mp (covB_iff.mp hc2)
                  have e : n = n2 := (nI_eq (by omega) (by omega)).mp hn2
                  subst e
                  refine mGo_if ok rfl (fun h5 => ?_) (fun h5 => ?_)
                  · exact absurd h5 (by decide)
                  · refine mGo_run (n := 400) ok rfl ?_
                    refine mGo_callV ok rfl (by omega) (c_copyTo40_40 (d := d) o1 p1 s2 u2 hac hac2) (fun τ hτ => ?_)
                    refine mGo_run (n := 400) ok rfl ?_
                    exact mGo_ret ok rfl trivial (⟨rfl, rfl, Or.inl ⟨a, a2, n, rfl, rfl, rfl, hac, hac2, he, h3, hτ⟩⟩)
          · have h3 : ¬ (S 2).1 = (S 2).1 := h3
            rw [if_neg h3]
            refine mGo_run (n := 400) ok rfl ?_
            exact mGo_ret ok rfl trivial (⟨rfl, rfl, Or.inr ⟨fun z => h3 z.2.1, rfl⟩⟩)
        · exact absurd rfl h2
    · exact absurd rfl h1
theorem c_copyTo40_44 {n n2 a a2 k : Nat} (hn : n ≤ 40) (hn2 : n2 ≤ 40) (hl : σ.1 40 4 = nI n) (hl2 : σ.1 44 4 = nI n2) (ha : a + k ≤ n) (ha2 : a2 + k ≤ n2) : mNV g l (d + 1) 58 [.ref 40, .int (nI a), .ref 44, .int (nI a2), .int (nI k)] lk ex σ (fun σ1 => cpP 40 44 a a2 k σ σ1) := by
  have ok : mOkP md_X5_copyTo := ok_at 58 (by decide) rfl
  refine mC_of (md := md_X5_copyTo) rfl (lt_at (by decide)) rfl ?_
  refine mGo_run (n := 400) ok rfl ?_
  refine mGo_callP ok rfl (by omega) (c_covers40 (d := d) hl (nI a) (nI k)) ?_
  rw [covB_iff.mpr ((qCov_iff hn).mpr ⟨a, k, rfl, rfl, ha⟩)]
  refine mGo_if ok rfl (fun h => ?_) (fun h => ?_)
  · exact absurd h (by decide)
  · clear h
    refine mGo_run (n := 400) ok rfl ?_
    refine mGo_callP ok rfl (by omega) (c_covers44 (d := d) hl2 (nI a2) (nI k)) ?_
    rw [covB_iff.mpr ((qCov_iff hn2).mpr ⟨a2, k, rfl, rfl, ha2⟩)]
    refine mGo_if ok rfl (fun h => ?_) (fun h => ?_)
    · exact absurd h (by decide)
    · clear h
      refine mGo_run (n := 400) ok rfl ?_
      refine mGo_cpL ok rfl cp_link2 (q0 := 41) (q1 := 45) rfl rfl (by omega) (by omega) (by omega) (by omega) ⟨by decide, by decide⟩ (by omega) ?_
      refine mGo_run (n := 400) ok rfl ?_
      refine mGo_cpD ok rfl cp_link2 (q0 := 42) (q1 := 46) rfl rfl (by omega) (by omega) (by omega) (by omega) ⟨by decide, by decide⟩ (by omega) ?_
      refine mGo_run (n := 400) ok rfl ?_
      refine mGo_cpI ok rfl cp_link2 (q0 := 43) (q1 := 47) rfl rfl (by omega) (by omega) (by omega) (by omega) ⟨by decide, by decide⟩ (by omega) ?_
      refine mGo_run (n := 400) ok rfl ?_
      refine mGo_ret ok rfl trivial ⟨rfl, rfl, fun i hi => ⟨?_, ?_, ?_⟩, fun j => ?_, fun j => ?_, fun j => ?_⟩
      · exact if_neg (fun z => hi ⟨by omega, by omega⟩)
      · exact if_neg (fun z => hi ⟨by omega, by omega⟩)
      · exact if_neg (fun z => hi ⟨by omega, by omega⟩)
      · show (if (45 : Nat) = 45 then va_cpy (σ.2.1 41) (σ.2.1 45) a a2 k else σ.2.1 45) j = _
        rw [if_pos rfl, cpy_at]
      · show (if (46 : Nat) = 46 then va_cpy (σ.2.2 42) (σ.2.2 46) a a2 k else σ.2.2 46) j = _
        rw [if_pos rfl, cpy_at]
      · show (if (47 : Nat) = 47 then va_cpy (σ.1 43) (σ.1 47) a a2 k else σ.1 47) j = _
        rw [if_pos rfl, cpy_at]
theorem x_copyElements40_44 (hO : sOk S) (hS : cSl σ S) (i j c : Int32) : mNR g l (d + 2) 108 [.ref 0, .int (nI 2), .int i, .int (nI 3), .int j, .int c] lk ex σ (.int (if (S 2).1 = -1 ∨ (S 3).1 = -1 then -11 else if (S 2).1 = (S 3).1 then (if covB (S 2).2 i c = true ∧ covB (S 3).2 j c = true then c else -13) else -12)) (fun σ1 => (∃ a a2 n, i = nI a ∧ j = nI a2 ∧ c = nI n ∧ a + n ≤ (S 2).2 ∧ a2 + n ≤ (S 3).2 ∧ (S 2).1 ≠ -1 ∧ (S 2).1 = (S 3).1 ∧ cpP 40 44 a a2 n σ σ1) ∨ (¬ ((S 2).1 ≠ -1 ∧ (S 2).1 = (S 3).1 ∧ covB (S 2).2 i c = true ∧ covB (S 3).2 j c = true) ∧ σ1 = σ)) := by
  obtain ⟨s1, s2⟩ := hS 2 (by omega)
  obtain ⟨o1, -⟩ := hO 2 (by omega)
  obtain ⟨u1, u2⟩ := hS 3 (by omega)
  obtain ⟨p1, -⟩ := hO 3 (by omega)
  have s1 : σ.1 40 3 = (S 2).1 := s1
  have s2 : σ.1 40 4 = nI (S 2).2 := s2
  have u1 : σ.1 44 3 = (S 3).1 := u1
  have u2 : σ.1 44 4 = nI (S 3).2 := u2
  have ok : mOkP md_X8_copyElements := ok_at 108 (by decide) rfl
  refine mC_of (md := md_X8_copyElements) rfl (lt_at (by decide)) rfl ?_
  refine mGo_run (n := 400) ok rfl ?_
  refine mGo_callP ok rfl (by omega) (c_slotAt40 (d := d)) ?_
  refine mGo_run (n := 400) ok rfl ?_
  refine mGo_callP ok rfl (by omega) (c_slotAt44 (d := d)) ?_
  refine mGo_run (n := 400) ok rfl ?_
  refine mGo_callP ok rfl (by omega) (c_isEmpty40 (d := d)) ?_
  rw [s1]
  by_cases he : (S 2).1 = -1
  · rw [if_pos he, if_pos (Or.inl he)]
    refine mGo_if ok rfl (fun h1 => ?_) (fun h1 => ?_)
    · exact absurd h1 (by decide)
    · refine mGo_run (n := 400) ok rfl ?_
      exact mGo_ret ok rfl trivial (⟨rfl, rfl, Or.inr ⟨fun z => z.1 he, rfl⟩⟩)
  · rw [if_neg he]
    refine mGo_if ok rfl (fun h1 => ?_) (fun h1 => ?_)
    · refine mGo_run (n := 400) ok rfl ?_
      refine mGo_callP ok rfl (by omega) (c_isEmpty44 (d := d)) ?_
      rw [u1]
      by_cases hf : (S 3).1 = -1
      · rw [if_pos hf, if_pos (Or.inr hf)]
        refine mGo_if ok rfl (fun h2 => ?_) (fun h2 => ?_)
        · exact absurd h2 (by decide)
        · refine mGo_run (n := 400) ok rfl ?_
          exact mGo_ret ok rfl trivial (⟨rfl, rfl, Or.inr ⟨fun z => z.1 (z.2.1.trans hf), rfl⟩⟩)
      · rw [if_neg hf, if_neg (fun z => z.elim he hf)]
        refine mGo_if ok rfl (fun h2 => ?_) (fun h2 => ?_)
        · refine mGo_run (n := 400) ok rfl ?_
          first | rw [s1, u1] | rw [s1]
          refine mGo_if ok rfl (fun h3 => ?_) (fun h3 => ?_)
          · have h3 : (S 2).1 = (S 3).1 := h3
            rw [if_pos h3]
            refine mGo_run (n := 400) ok rfl ?_
            refine mGo_callP ok rfl (by omega) (c_covers40 (d := d) s2 i c) ?_
            cases hc : covB (S 2).2 i c with
            | false =>
              rw [if_neg (fun z => by cases z.1)]
              refine mGo_if ok rfl (fun h4 => ?_) (fun h4 => ?_)
              · refine mGo_run (n := 400) ok rfl ?_
                exact mGo_ret ok rfl trivial (⟨rfl, rfl, Or.inr ⟨fun z => (by cases z.2.2.1), rfl⟩⟩)
              · exact absurd rfl h4
            | true =>
              refine mGo_if ok rfl (fun h4 => ?_) (fun h4 => ?_)
              · exact absurd h4 (by decide)
              · refine mGo_run (n := 400) ok rfl ?_
                refine mGo_callP ok rfl (by omega) (c_covers44 (d := d) u2 j c) ?_
                cases hc2 : covB (S 3).2 j c with
                | false =>
                  rw [if_neg (fun z => by cases z.2)]
                  refine mGo_if ok rfl (fun h5 => ?_) (fun h5 => ?_)
                  · refine mGo_run (n := 400) ok rfl ?_
                    exact mGo_ret ok rfl trivial (⟨rfl, rfl, Or.inr ⟨fun z => (by cases z.2.2.2), rfl⟩⟩)
                  · exact absurd rfl h5
                | true =>
                  rw [if_pos ⟨rfl, rfl⟩]
                  obtain ⟨a, n, rfl, rfl, hac⟩ := (qCov_iff o1).mp (covB_iff.mp hc)
                  obtain ⟨a2, n2, rfl, hn2, hac2⟩ := (qCov_iff p1).mp (covB_iff.mp hc2)
                  have e : n = n2 := (nI_eq (by omega) (by omega)).mp hn2
                  subst e
                  refine mGo_if ok rfl (fun h5 => ?_) (fun h5 => ?_)
                  · exact absurd h5 (by decide)
                  · refine mGo_run (n := 400) ok rfl ?_
                    refine mGo_callV ok rfl (by omega) (c_copyTo40_44 (d := d) o1 p1 s2 u2 hac hac2) (fun τ hτ => ?_)
                    refine mGo_run (n := 400) ok rfl ?_
                    exact mGo_ret ok rfl trivial (⟨rfl, rfl, Or.inl ⟨a, a2, n, rfl, rfl, rfl, hac, hac2, he, h3, hτ⟩⟩)
          · have h3 : ¬ (S 2).1 = (S 3).1 := h3
            rw [if_neg h3]
            refine mGo_run (n := 400) ok rfl ?_
            exact mGo_ret ok rfl trivial (⟨rfl, rfl, Or.inr ⟨fun z => h3 z.2.1, rfl⟩⟩)
        · exact absurd rfl h2
    · exact absurd rfl h1
theorem x_copyElementsN40 {u : Int32} (hu : ¬ ∃ k, k < 4 ∧ u = nI k) (i j c : Int32) : mNP g l (d + 2) 108 [.ref 0, .int (nI 2), .int i, .int u, .int j, .int c] lk ex σ (.int (-1)) := by
  have ok : mOkP md_X8_copyElements := ok_at 108 (by decide) rfl
  refine mC_of (md := md_X8_copyElements) rfl (lt_at (by decide)) rfl ?_
  refine mGo_run (n := 400) ok rfl ?_
  refine mGo_callP ok rfl (by omega) (c_slotAt40 (d := d)) ?_
  refine mGo_run (n := 400) ok rfl ?_
  refine mGo_callP ok rfl (by omega) (c_slotAt0 (d := d) hu) ?_
  refine mGo_run (n := 400) ok rfl ?_
  exact mGo_ret ok rfl trivial (⟨rfl, rfl, rfl⟩)
theorem x_copyElementsM40 {s : Int32} (hs : ¬ ∃ k, k < 4 ∧ s = nI k) (i j c : Int32) : mNP g l (d + 2) 108 [.ref 0, .int s, .int i, .int (nI 2), .int j, .int c] lk ex σ (.int (-1)) := by
  have ok : mOkP md_X8_copyElements := ok_at 108 (by decide) rfl
  refine mC_of (md := md_X8_copyElements) rfl (lt_at (by decide)) rfl ?_
  refine mGo_run (n := 400) ok rfl ?_
  refine mGo_callP ok rfl (by omega) (c_slotAt0 (d := d) hs) ?_
  refine mGo_run (n := 400) ok rfl ?_
  refine mGo_callP ok rfl (by omega) (c_slotAt40 (d := d)) ?_
  refine mGo_run (n := 400) ok rfl ?_
  exact mGo_ret ok rfl trivial (⟨rfl, rfl, rfl⟩)
theorem c_copyTo44_32 {n n2 a a2 k : Nat} (hn : n ≤ 40) (hn2 : n2 ≤ 40) (hl : σ.1 44 4 = nI n) (hl2 : σ.1 32 4 = nI n2) (ha : a + k ≤ n) (ha2 : a2 + k ≤ n2) : mNV g l (d + 1) 58 [.ref 44, .int (nI a), .ref 32, .int (nI a2), .int (nI k)] lk ex σ (fun σ1 => cpP 44 32 a a2 k σ σ1) := by
  have ok : mOkP md_X5_copyTo := ok_at 58 (by decide) rfl
  refine mC_of (md := md_X5_copyTo) rfl (lt_at (by decide)) rfl ?_
  refine mGo_run (n := 400) ok rfl ?_
  refine mGo_callP ok rfl (by omega) (c_covers44 (d := d) hl (nI a) (nI k)) ?_
  rw [covB_iff.mpr ((qCov_iff hn).mpr ⟨a, k, rfl, rfl, ha⟩)]
  refine mGo_if ok rfl (fun h => ?_) (fun h => ?_)
  · exact absurd h (by decide)
  · clear h
    refine mGo_run (n := 400) ok rfl ?_
    refine mGo_callP ok rfl (by omega) (c_covers32 (d := d) hl2 (nI a2) (nI k)) ?_
    rw [covB_iff.mpr ((qCov_iff hn2).mpr ⟨a2, k, rfl, rfl, ha2⟩)]
    refine mGo_if ok rfl (fun h => ?_) (fun h => ?_)
    · exact absurd h (by decide)
    · clear h
      refine mGo_run (n := 400) ok rfl ?_
      refine mGo_cpL ok rfl cp_link2 (q0 := 45) (q1 := 33) rfl rfl (by omega) (by omega) (by omega) (by omega) ⟨by decide, by decide⟩ (by omega) ?_
      refine mGo_run (n := 400) ok rfl ?_
      refine mGo_cpD ok rfl cp_link2 (q0 := 46) (q1 := 34) rfl rfl (by omega) (by omega) (by omega) (by omega) ⟨by decide, by decide⟩ (by omega) ?_
      refine mGo_run (n := 400) ok rfl ?_
      refine mGo_cpI ok rfl cp_link2 (q0 := 47) (q1 := 35) rfl rfl (by omega) (by omega) (by omega) (by omega) ⟨by decide, by decide⟩ (by omega) ?_
      refine mGo_run (n := 400) ok rfl ?_
      refine mGo_ret ok rfl trivial ⟨rfl, rfl, fun i hi => ⟨?_, ?_, ?_⟩, fun j => ?_, fun j => ?_, fun j => ?_⟩
      · exact if_neg (fun z => hi ⟨by omega, by omega⟩)
      · exact if_neg (fun z => hi ⟨by omega, by omega⟩)
      · exact if_neg (fun z => hi ⟨by omega, by omega⟩)
      · show (if (33 : Nat) = 33 then va_cpy (σ.2.1 45) (σ.2.1 33) a a2 k else σ.2.1 33) j = _
        rw [if_pos rfl, cpy_at]
      · show (if (34 : Nat) = 34 then va_cpy (σ.2.2 46) (σ.2.2 34) a a2 k else σ.2.2 34) j = _
        rw [if_pos rfl, cpy_at]
      · show (if (35 : Nat) = 35 then va_cpy (σ.1 47) (σ.1 35) a a2 k else σ.1 35) j = _
        rw [if_pos rfl, cpy_at]
theorem x_copyElements44_32 (hO : sOk S) (hS : cSl σ S) (i j c : Int32) : mNR g l (d + 2) 108 [.ref 0, .int (nI 3), .int i, .int (nI 0), .int j, .int c] lk ex σ (.int (if (S 3).1 = -1 ∨ (S 0).1 = -1 then -11 else if (S 3).1 = (S 0).1 then (if covB (S 3).2 i c = true ∧ covB (S 0).2 j c = true then c else -13) else -12)) (fun σ1 => (∃ a a2 n, i = nI a ∧ j = nI a2 ∧ c = nI n ∧ a + n ≤ (S 3).2 ∧ a2 + n ≤ (S 0).2 ∧ (S 3).1 ≠ -1 ∧ (S 3).1 = (S 0).1 ∧ cpP 44 32 a a2 n σ σ1) ∨ (¬ ((S 3).1 ≠ -1 ∧ (S 3).1 = (S 0).1 ∧ covB (S 3).2 i c = true ∧ covB (S 0).2 j c = true) ∧ σ1 = σ)) := by
  obtain ⟨s1, s2⟩ := hS 3 (by omega)
  obtain ⟨o1, -⟩ := hO 3 (by omega)
  obtain ⟨u1, u2⟩ := hS 0 (by omega)
  obtain ⟨p1, -⟩ := hO 0 (by omega)
  have s1 : σ.1 44 3 = (S 3).1 := s1
  have s2 : σ.1 44 4 = nI (S 3).2 := s2
  have u1 : σ.1 32 3 = (S 0).1 := u1
  have u2 : σ.1 32 4 = nI (S 0).2 := u2
  have ok : mOkP md_X8_copyElements := ok_at 108 (by decide) rfl
  refine mC_of (md := md_X8_copyElements) rfl (lt_at (by decide)) rfl ?_
  refine mGo_run (n := 400) ok rfl ?_
  refine mGo_callP ok rfl (by omega) (c_slotAt44 (d := d)) ?_
  refine mGo_run (n := 400) ok rfl ?_
  refine mGo_callP ok rfl (by omega) (c_slotAt32 (d := d)) ?_
  refine mGo_run (n := 400) ok rfl ?_
  refine mGo_callP ok rfl (by omega) (c_isEmpty44 (d := d)) ?_
  rw [s1]
  by_cases he : (S 3).1 = -1
  · rw [if_pos he, if_pos (Or.inl he)]
    refine mGo_if ok rfl (fun h1 => ?_) (fun h1 => ?_)
    · exact absurd h1 (by decide)
    · refine mGo_run (n := 400) ok rfl ?_
      exact mGo_ret ok rfl trivial (⟨rfl, rfl, Or.inr ⟨fun z => z.1 he, rfl⟩⟩)
  · rw [if_neg he]
    refine mGo_if ok rfl (fun h1 => ?_) (fun h1 => ?_)
    · refine mGo_run (n := 400) ok rfl ?_
      refine mGo_callP ok rfl (by omega) (c_isEmpty32 (d := d)) ?_
      rw [u1]
      by_cases hf : (S 0).1 = -1
      · rw [if_pos hf, if_pos (Or.inr hf)]
        refine mGo_if ok rfl (fun h2 => ?_) (fun h2 => ?_)
        · exact absurd h2 (by decide)
        · refine mGo_run (n := 400) ok rfl ?_
          exact mGo_ret ok rfl trivial (⟨rfl, rfl, Or.inr ⟨fun z => z.1 (z.2.1.trans hf), rfl⟩⟩)
      · rw [if_neg hf, if_neg (fun z => z.elim he hf)]
        refine mGo_if ok rfl (fun h2 => ?_) (fun h2 => ?_)
        · refine mGo_run (n := 400) ok rfl ?_
          first | rw [s1, u1] | rw [s1]
          refine mGo_if ok rfl (fun h3 => ?_) (fun h3 => ?_)
          · have h3 : (S 3).1 = (S 0).1 := h3
            rw [if_pos h3]
            refine mGo_run (n := 400) ok rfl ?_
            refine mGo_callP ok rfl (by omega) (c_covers44 (d := d) s2 i c) ?_
            cases hc : covB (S 3).2 i c with
            | false =>
              rw [if_neg (fun z => by cases z.1)]
              refine mGo_if ok rfl (fun h4 => ?_) (fun h4 => ?_)
              · refine mGo_run (n := 400) ok rfl ?_
                exact mGo_ret ok rfl trivial (⟨rfl, rfl, Or.inr ⟨fun z => (by cases z.2.2.1), rfl⟩⟩)
              · exact absurd rfl h4
            | true =>
              refine mGo_if ok rfl (fun h4 => ?_) (fun h4 => ?_)
              · exact absurd h4 (by decide)
              · refine mGo_run (n := 400) ok rfl ?_
                refine mGo_callP ok rfl (by omega) (c_covers32 (d := d) u2 j c) ?_
                cases hc2 : covB (S 0).2 j c with
                | false =>
                  rw [if_neg (fun z => by cases z.2)]
                  refine mGo_if ok rfl (fun h5 => ?_) (fun h5 => ?_)
                  · refine mGo_run (n := 400) ok rfl ?_
                    exact mGo_ret ok rfl trivial (⟨rfl, rfl, Or.inr ⟨fun z => (by cases z.2.2.2), rfl⟩⟩)
                  · exact absurd rfl h5
                | true =>
                  rw [if_pos ⟨rfl, rfl⟩]
                  obtain ⟨a, n, rfl, rfl, hac⟩ := (qCov_iff o1).mp (covB_iff.mp hc)
                  obtain ⟨a2, n2, rfl, hn2, hac2⟩ := (qCov_iff p1).mp (covB_iff.mp hc2)
                  have e : n = n2 := (nI_eq (by omega) (by omega)).mp hn2
                  subst e
                  refine mGo_if ok rfl (fun h5 => ?_) (fun h5 => ?_)
                  · exact absurd h5 (by decide)
                  · refine mGo_run (n := 400) ok rfl ?_
                    refine mGo_callV ok rfl (by omega) (c_copyTo44_32 (d := d) o1 p1 s2 u2 hac hac2) (fun τ hτ => ?_)
                    refine mGo_run (n := 400) ok rfl ?_
                    exact mGo_ret ok rfl trivial (⟨rfl, rfl, Or.inl ⟨a, a2, n, rfl, rfl, rfl, hac, hac2, he, h3, hτ⟩⟩)
          · have h3 : ¬ (S 3).1 = (S 0).1 := h3
            rw [if_neg h3]
            refine mGo_run (n := 400) ok rfl ?_
            exact mGo_ret ok rfl trivial (⟨rfl, rfl, Or.inr ⟨fun z => h3 z.2.1, rfl⟩⟩)
        · exact absurd rfl h2
    · exact absurd rfl h1
theorem c_copyTo44_36 {n n2 a a2 k : Nat} (hn : n ≤ 40) (hn2 : n2 ≤ 40) (hl : σ.1 44 4 = nI n) (hl2 : σ.1 36 4 = nI n2) (ha : a + k ≤ n) (ha2 : a2 + k ≤ n2) : mNV g l (d + 1) 58 [.ref 44, .int (nI a), .ref 36, .int (nI a2), .int (nI k)] lk ex σ (fun σ1 => cpP 44 36 a a2 k σ σ1) := by
  have ok : mOkP md_X5_copyTo := ok_at 58 (by decide) rfl
  refine mC_of (md := md_X5_copyTo) rfl (lt_at (by decide)) rfl ?_
  refine mGo_run (n := 400) ok rfl ?_
  refine mGo_callP ok rfl (by omega) (c_covers44 (d := d) hl (nI a) (nI k)) ?_
  rw [covB_iff.mpr ((qCov_iff hn).mpr ⟨a, k, rfl, rfl, ha⟩)]
  refine mGo_if ok rfl (fun h => ?_) (fun h => ?_)
  · exact absurd h (by decide)
  · clear h
    refine mGo_run (n := 400) ok rfl ?_
    refine mGo_callP ok rfl (by omega) (c_covers36 (d := d) hl2 (nI a2) (nI k)) ?_
    rw [covB_iff.mpr ((qCov_iff hn2).mpr ⟨a2, k, rfl, rfl, ha2⟩)]
    refine mGo_if ok rfl (fun h => ?_) (fun h => ?_)
    · exact absurd h (by decide)
    · clear h
      refine mGo_run (n := 400) ok rfl ?_
      refine mGo_cpL ok rfl cp_link2 (q0 := 45) (q1 := 37) rfl rfl (by omega) (by omega) (by omega) (by omega) ⟨by decide, by decide⟩ (by omega) ?_
      refine mGo_run (n := 400) ok rfl ?_
      refine mGo_cpD ok rfl cp_link2 (q0 := 46) (q1 := 38) rfl rfl (by omega) (by omega) (by omega) (by omega) ⟨by decide, by decide⟩ (by omega) ?_
      refine mGo_run (n := 400) ok rfl ?_
      refine mGo_cpI ok rfl cp_link2 (q0 := 47) (q1 := 39) rfl rfl (by omega) (by omega) (by omega) (by omega) ⟨by decide, by decide⟩ (by omega) ?_
      refine mGo_run (n := 400) ok rfl ?_
      refine mGo_ret ok rfl trivial ⟨rfl, rfl, fun i hi => ⟨?_, ?_, ?_⟩, fun j => ?_, fun j => ?_, fun j => ?_⟩
      · exact if_neg (fun z => hi ⟨by omega, by omega⟩)
      · exact if_neg (fun z => hi ⟨by omega, by omega⟩)
      · exact if_neg (fun z => hi ⟨by omega, by omega⟩)
      · show (if (37 : Nat) = 37 then va_cpy (σ.2.1 45) (σ.2.1 37) a a2 k else σ.2.1 37) j = _
        rw [if_pos rfl, cpy_at]
      · show (if (38 : Nat) = 38 then va_cpy (σ.2.2 46) (σ.2.2 38) a a2 k else σ.2.2 38) j = _
        rw [if_pos rfl, cpy_at]
      · show (if (39 : Nat) = 39 then va_cpy (σ.1 47) (σ.1 39) a a2 k else σ.1 39) j = _
        rw [if_pos rfl, cpy_at]
theorem x_copyElements44_36 (hO : sOk S) (hS : cSl σ S) (i j c : Int32) : mNR g l (d + 2) 108 [.ref 0, .int (nI 3), .int i, .int (nI 1), .int j, .int c] lk ex σ (.int (if (S 3).1 = -1 ∨ (S 1).1 = -1 then -11 else if (S 3).1 = (S 1).1 then (if covB (S 3).2 i c = true ∧ covB (S 1).2 j c = true then c else -13) else -12)) (fun σ1 => (∃ a a2 n, i = nI a ∧ j = nI a2 ∧ c = nI n ∧ a + n ≤ (S 3).2 ∧ a2 + n ≤ (S 1).2 ∧ (S 3).1 ≠ -1 ∧ (S 3).1 = (S 1).1 ∧ cpP 44 36 a a2 n σ σ1) ∨ (¬ ((S 3).1 ≠ -1 ∧ (S 3).1 = (S 1).1 ∧ covB (S 3).2 i c = true ∧ covB (S 1).2 j c = true) ∧ σ1 = σ)) := by
  obtain ⟨s1, s2⟩ := hS 3 (by omega)
  obtain ⟨o1, -⟩ := hO 3 (by omega)
  obtain ⟨u1, u2⟩ := hS 1 (by omega)
  obtain ⟨p1, -⟩ := hO 1 (by omega)
  have s1 : σ.1 44 3 = (S 3).1 := s1
  have s2 : σ.1 44 4 = nI (S 3).2 := s2
  have u1 : σ.1 36 3 = (S 1).1 := u1
  have u2 : σ.1 36 4 = nI (S 1).2 := u2
  have ok : mOkP md_X8_copyElements := ok_at 108 (by decide) rfl
  refine mC_of (md := md_X8_copyElements) rfl (lt_at (by decide)) rfl ?_
  refine mGo_run (n := 400) ok rfl ?_
  refine mGo_callP ok rfl (by omega) (c_slotAt44 (d := d)) ?_
  refine mGo_run (n := 400) ok rfl ?_
  refine mGo_callP ok rfl (by omega) (c_slotAt36 (d := d)) ?_
  refine mGo_run (n := 400) ok rfl ?_
  refine mGo_callP ok rfl (by omega) (c_isEmpty44 (d := d)) ?_
  rw [s1]
  by_cases he : (S 3).1 = -1
  · rw [if_pos he, if_pos (Or.inl he)]
    refine mGo_if ok rfl (fun h1 => ?_) (fun h1 => ?_)
    · exact absurd h1 (by decide)
    · refine mGo_run (n := 400) ok rfl ?_
      exact mGo_ret ok rfl trivial (⟨rfl, rfl, Or.inr ⟨fun z => z.1 he, rfl⟩⟩)
  · rw [if_neg he]
    refine mGo_if ok rfl (fun h1 => ?_) (fun h1 => ?_)
    · refine mGo_run (n := 400) ok rfl ?_
      refine mGo_callP ok rfl (by omega) (c_isEmpty36 (d := d)) ?_
      rw [u1]
      by_cases hf : (S 1).1 = -1
      · rw [if_pos hf, if_pos (Or.inr hf)]
        refine mGo_if ok rfl (fun h2 => ?_) (fun h2 => ?_)
        · exact absurd h2 (by decide)
        · refine mGo_run (n := 400) ok rfl ?_
          exact mGo_ret ok rfl trivial (⟨rfl, rfl, Or.inr ⟨fun z => z.1 (z.2.1.trans hf), rfl⟩⟩)
      · rw [if_neg hf, if_neg (fun z => z.elim he hf)]
        refine mGo_if ok rfl (fun h2 => ?_) (fun h2 => ?_)
        · refine mGo_run (n := 400) ok rfl ?_
          first | rw [s1, u1] | rw [s1]
          refine mGo_if ok rfl (fun h3 => ?_) (fun h3 => ?_)
          · have h3 : (S 3).1 = (S 1).1 := h3
            rw [if_pos h3]
            refine mGo_run (n := 400) ok rfl ?_
            refine mGo_callP ok rfl (by omega) (c_covers44 (d := d) s2 i c) ?_
            cases hc : covB (S 3).2 i c with
            | false =>
              rw [if_neg (fun z => by cases z.1)]
              refine mGo_if ok rfl (fun h4 => ?_) (fun h4 => ?_)
              · refine mGo_run (n := 400) ok rfl ?_
                exact mGo_ret ok rfl trivial (⟨rfl, rfl, Or.inr ⟨fun z => (by cases z.2.2.1), rfl⟩⟩)
              · exact absurd rfl h4
            | true =>
              refine mGo_if ok rfl (fun h4 => ?_) (fun h4 => ?_)
              · exact absurd h4 (by decide)
              · refine mGo_run (n := 400) ok rfl ?_
                refine mGo_callP ok rfl (by omega) (c_covers36 (d := d) u2 j c) ?_
                cases hc2 : covB (S 1).2 j c with
                | false =>
                  rw [if_neg (fun z => by cases z.2)]
                  refine mGo_if ok rfl (fun h5 => ?_) (fun h5 => ?_)
                  · refine mGo_run (n := 400) ok rfl ?_
                    exact mGo_ret ok rfl trivial (⟨rfl, rfl, Or.inr ⟨fun z => (by cases z.2.2.2), rfl⟩⟩)
                  · exact absurd rfl h5
                | true =>
                  rw [if_pos ⟨rfl, rfl⟩]
                  obtain ⟨a, n, rfl, rfl, hac⟩ := (qCov_iff o1).mp (covB_iff.mp hc)
                  obtain ⟨a2, n2, rfl, hn2, hac2⟩ := (qCov_iff p1).mp (covB_iff.mp hc2)
                  have e : n = n2 := (nI_eq (by omega) (by omega)).mp hn2
                  subst e
                  refine mGo_if ok rfl (fun h5 => ?_) (fun h5 => ?_)
                  · exact absurd h5 (by decide)
                  · refine mGo_run (n := 400) ok rfl ?_
                    refine mGo_callV ok rfl (by omega) (c_copyTo44_36 (d := d) o1 p1 s2 u2 hac hac2) (fun τ hτ => ?_)
                    refine mGo_run (n := 400) ok rfl ?_
                    exact mGo_ret ok rfl trivial (⟨rfl, rfl, Or.inl ⟨a, a2, n, rfl, rfl, rfl, hac, hac2, he, h3, hτ⟩⟩)
          · have h3 : ¬ (S 3).1 = (S 1).1 := h3
            rw [if_neg h3]
            refine mGo_run (n := 400) ok rfl ?_
            exact mGo_ret ok rfl trivial (⟨rfl, rfl, Or.inr ⟨fun z => h3 z.2.1, rfl⟩⟩)
        · exact absurd rfl h2
    · exact absurd rfl h1
theorem c_copyTo44_40 {n n2 a a2 k : Nat} (hn : n ≤ 40) (hn2 : n2 ≤ 40) (hl : σ.1 44 4 = nI n) (hl2 : σ.1 40 4 = nI n2) (ha : a + k ≤ n) (ha2 : a2 + k ≤ n2) : mNV g l (d + 1) 58 [.ref 44, .int (nI a), .ref 40, .int (nI a2), .int (nI k)] lk ex σ (fun σ1 => cpP 44 40 a a2 k σ σ1) := by
  have ok : mOkP md_X5_copyTo := ok_at 58 (by decide) rfl
  refine mC_of (md := md_X5_copyTo) rfl (lt_at (by decide)) rfl ?_
  refine mGo_run (n := 400) ok rfl ?_
  refine mGo_callP ok rfl (by omega) (c_covers44 (d := d) hl (nI a) (nI k)) ?_
  rw [covB_iff.mpr ((qCov_iff hn).mpr ⟨a, k, rfl, rfl, ha⟩)]
  refine mGo_if ok rfl (fun h => ?_) (fun h => ?_)
  · exact absurd h (by decide)
  · clear h
    refine mGo_run (n := 400) ok rfl ?_
    refine mGo_callP ok rfl (by omega) (c_covers40 (d := d) hl2 (nI a2) (nI k)) ?_
    rw [covB_iff.mpr ((qCov_iff hn2).mpr ⟨a2, k, rfl, rfl, ha2⟩)]
    refine mGo_if ok rfl (fun h => ?_) (fun h => ?_)
    · exact absurd h (by decide)
    · clear h
      refine mGo_run (n := 400) ok rfl ?_
      refine mGo_cpL ok rfl cp_link2 (q0 := 45) (q1 := 41) rfl rfl (by omega) (by omega) (by omega) (by omega) ⟨by decide, by decide⟩ (by omega) ?_
      refine mGo_run (n := 400) ok rfl ?_
      refine mGo_cpD ok rfl cp_link2 (q0 := 46) (q1 := 42) rfl rfl (by omega) (by omega) (by omega) (by omega) ⟨by decide, by decide⟩ (by omega) ?_
      refine mGo_run (n := 400) ok rfl ?_
      refine mGo_cpI ok rfl cp_link2 (q0 := 47) (q1 := 43) rfl rfl (by omega) (by omega) (by omega) (by omega) ⟨by decide, by decide⟩ (by omega) ?_
      refine mGo_run (n := 400) ok rfl ?_
      refine mGo_ret ok rfl trivial ⟨rfl, rfl, fun i hi => ⟨?_, ?_, ?_⟩, fun j => ?_, fun j => ?_, fun j => ?_⟩
      · exact if_neg (fun z => hi ⟨by omega, by omega⟩)
      · exact if_neg (fun z => hi ⟨by omega, by omega⟩)
      · exact if_neg (fun z => hi ⟨by omega, by omega⟩)
      · show (if (41 : Nat) = 41 then va_cpy (σ.2.1 45) (σ.2.1 41) a a2 k else σ.2.1 41) j = _
        rw [if_pos rfl, cpy_at]
      · show (if (42 : Nat) = 42 then va_cpy (σ.2.2 46) (σ.2.2 42) a a2 k else σ.2.2 42) j = _
        rw [if_pos rfl, cpy_at]
      · show (if (43 : Nat) = 43 then va_cpy (σ.1 47) (σ.1 43) a a2 k else σ.1 43) j = _
        rw [if_pos rfl, cpy_at]
theorem x_copyElements44_40 (hO : sOk S) (hS : cSl σ S) (i j c : Int32) : mNR g l (d + 2) 108 [.ref 0, .int (nI 3), .int i, .int (nI 2), .int j, .int c] lk ex σ (.int (if (S 3).1 = -1 ∨ (S 2).1 = -1 then -11 else if (S 3).1 = (S 2).1 then (if covB (S 3).2 i c = true ∧ covB (S 2).2 j c = true then c else -13) else -12)) (fun σ1 => (∃ a a2 n, i = nI a ∧ j = nI a2 ∧ c = nI n ∧ a + n ≤ (S 3).2 ∧ a2 + n ≤ (S 2).2 ∧ (S 3).1 ≠ -1 ∧ (S 3).1 = (S 2).1 ∧ cpP 44 40 a a2 n σ σ1) ∨ (¬ ((S 3).1 ≠ -1 ∧ (S 3).1 = (S 2).1 ∧ covB (S 3).2 i c = true ∧ covB (S 2).2 j c = true) ∧ σ1 = σ)) := by
  obtain ⟨s1, s2⟩ := hS 3 (by omega)
  obtain ⟨o1, -⟩ := hO 3 (by omega)
  obtain ⟨u1, u2⟩ := hS 2 (by omega)
  obtain ⟨p1, -⟩ := hO 2 (by omega)
  have s1 : σ.1 44 3 = (S 3).1 := s1
  have s2 : σ.1 44 4 = nI (S 3).2 := s2
  have u1 : σ.1 40 3 = (S 2).1 := u1
  have u2 : σ.1 40 4 = nI (S 2).2 := u2
  have ok : mOkP md_X8_copyElements := ok_at 108 (by decide) rfl
  refine mC_of (md := md_X8_copyElements) rfl (lt_at (by decide)) rfl ?_
  refine mGo_run (n := 400) ok rfl ?_
  refine mGo_callP ok rfl (by omega) (c_slotAt44 (d := d)) ?_
  refine mGo_run (n := 400) ok rfl ?_
  refine mGo_callP ok rfl (by omega) (c_slotAt40 (d := d)) ?_
  refine mGo_run (n := 400) ok rfl ?_
  refine mGo_callP ok rfl (by omega) (c_isEmpty44 (d := d)) ?_
  rw [s1]
  by_cases he : (S 3).1 = -1
  · rw [if_pos he, if_pos (Or.inl he)]
    refine mGo_if ok rfl (fun h1 => ?_) (fun h1 => ?_)
    · exact absurd h1 (by decide)
    · refine mGo_run (n := 400) ok rfl ?_
      exact mGo_ret ok rfl trivial (⟨rfl, rfl, Or.inr ⟨fun z => z.1 he, rfl⟩⟩)
  · rw [if_neg he]
    refine mGo_if ok rfl (fun h1 => ?_) (fun h1 => ?_)
    · refine mGo_run (n := 400) ok rfl ?_
      refine mGo_callP ok rfl (by omega) (c_isEmpty40 (d := d)) ?_
      rw [u1]
      by_cases hf : (S 2).1 = -1
      · rw [if_pos hf, if_pos (Or.inr hf)]
        refine mGo_if ok rfl (fun h2 => ?_) (fun h2 => ?_)
        · exact absurd h2 (by decide)
        · refine mGo_run (n := 400) ok rfl ?_
          exact mGo_ret ok rfl trivial (⟨rfl, rfl, Or.inr ⟨fun z => z.1 (z.2.1.trans hf), rfl⟩⟩)
      · rw [if_neg hf, if_neg (fun z => z.elim he hf)]
        refine mGo_if ok rfl (fun h2 => ?_) (fun h2 => ?_)
        · refine mGo_run (n := 400) ok rfl ?_
          first | rw [s1, u1] | rw [s1]
          refine mGo_if ok rfl (fun h3 => ?_) (fun h3 => ?_)
          · have h3 : (S 3).1 = (S 2).1 := h3
            rw [if_pos h3]
            refine mGo_run (n := 400) ok rfl ?_
            refine mGo_callP ok rfl (by omega) (c_covers44 (d := d) s2 i c) ?_
            cases hc : covB (S 3).2 i c with
            | false =>
              rw [if_neg (fun z => by cases z.1)]
              refine mGo_if ok rfl (fun h4 => ?_) (fun h4 => ?_)
              · refine mGo_run (n := 400) ok rfl ?_
                exact mGo_ret ok rfl trivial (⟨rfl, rfl, Or.inr ⟨fun z => (by cases z.2.2.1), rfl⟩⟩)
              · exact absurd rfl h4
            | true =>
              refine mGo_if ok rfl (fun h4 => ?_) (fun h4 => ?_)
              · exact absurd h4 (by decide)
              · refine mGo_run (n := 400) ok rfl ?_
                refine mGo_callP ok rfl (by omega) (c_covers40 (d := d) u2 j c) ?_
                cases hc2 : covB (S 2).2 j c with
                | false =>
                  rw [if_neg (fun z => by cases z.2)]
                  refine mGo_if ok rfl (fun h5 => ?_) (fun h5 => ?_)
                  · refine mGo_run (n := 400) ok rfl ?_
                    exact mGo_ret ok rfl trivial (⟨rfl, rfl, Or.inr ⟨fun z => (by cases z.2.2.2), rfl⟩⟩)
                  · exact absurd rfl h5
                | true =>
                  rw [if_pos ⟨rfl, rfl⟩]
                  obtain ⟨a, n, rfl, rfl, hac⟩ := (qCov_iff o1).mp (covB_iff.mp hc)
                  obtain ⟨a2, n2, rfl, hn2, hac2⟩ := (qCov_iff p1).mp (covB_iff.mp hc2)
                  have e : n = n2 := (nI_eq (by omega) (by omega)).mp hn2
                  subst e
                  refine mGo_if ok rfl (fun h5 => ?_) (fun h5 => ?_)
                  · exact absurd h5 (by decide)
                  · refine mGo_run (n := 400) ok rfl ?_
                    refine mGo_callV ok rfl (by omega) (c_copyTo44_40 (d := d) o1 p1 s2 u2 hac hac2) (fun τ hτ => ?_)
                    refine mGo_run (n := 400) ok rfl ?_
                    exact mGo_ret ok rfl trivial (⟨rfl, rfl, Or.inl ⟨a, a2, n, rfl, rfl, rfl, hac, hac2, he, h3, hτ⟩⟩)
          · have h3 : ¬ (S 3).1 = (S 2).1 := h3
            rw [if_neg h3]
            refine mGo_run (n := 400) ok rfl ?_
            exact mGo_ret ok rfl trivial (⟨rfl, rfl, Or.inr ⟨fun z => h3 z.2.1, rfl⟩⟩)
        · exact absurd rfl h2
    · exact absurd rfl h1
theorem c_copyTo44_44 {n n2 a a2 k : Nat} (hn : n ≤ 40) (hn2 : n2 ≤ 40) (hl : σ.1 44 4 = nI n) (hl2 : σ.1 44 4 = nI n2) (ha : a + k ≤ n) (ha2 : a2 + k ≤ n2) : mNV g l (d + 1) 58 [.ref 44, .int (nI a), .ref 44, .int (nI a2), .int (nI k)] lk ex σ (fun σ1 => cpP 44 44 a a2 k σ σ1) := by
  have ok : mOkP md_X5_copyTo := ok_at 58 (by decide) rfl
  refine mC_of (md := md_X5_copyTo) rfl (lt_at (by decide)) rfl ?_
  refine mGo_run (n := 400) ok rfl ?_
  refine mGo_callP ok rfl (by omega) (c_covers44 (d := d) hl (nI a) (nI k)) ?_
  rw [covB_iff.mpr ((qCov_iff hn).mpr ⟨a, k, rfl, rfl, ha⟩)]
  refine mGo_if ok rfl (fun h => ?_) (fun h => ?_)
  · exact absurd h (by decide)
  · clear h
    refine mGo_run (n := 400) ok rfl ?_
    refine mGo_callP ok rfl (by omega) (c_covers44 (d := d) hl2 (nI a2) (nI k)) ?_
    rw [covB_iff.mpr ((qCov_iff hn2).mpr ⟨a2, k, rfl, rfl, ha2⟩)]
    refine mGo_if ok rfl (fun h => ?_) (fun h => ?_)
    · exact absurd h (by decide)
    · clear h
      refine mGo_run (n := 400) ok rfl ?_
      refine mGo_cpL ok rfl cp_link2 (q0 := 45) (q1 := 45) rfl rfl (by omega) (by omega) (by omega) (by omega) ⟨by decide, by decide⟩ (by omega) ?_
      refine mGo_run (n := 400) ok rfl ?_
      refine mGo_cpD ok rfl cp_link2 (q0 := 46) (q1 := 46) rfl rfl (by omega) (by omega) (by omega) (by omega) ⟨by decide, by decide⟩ (by omega) ?_
      refine mGo_run (n := 400) ok rfl ?_
      refine mGo_cpI ok rfl cp_link2 (q0 := 47) (q1 := 47) rfl rfl (by omega) (by omega) (by omega) (by omega) ⟨by decide, by decide⟩ (by omega) ?_
      refine mGo_run (n := 400) ok rfl ?_
      refine mGo_ret ok rfl trivial ⟨rfl, rfl, fun i hi => ⟨?_, ?_, ?_⟩, fun j => ?_, fun j => ?_, fun j => ?_⟩
      · exact if_neg (fun z => hi ⟨by omega, by omega⟩)
      · exact if_neg (fun z => hi ⟨by omega, by omega⟩)
      · exact if_neg (fun z => hi ⟨by omega, by omega⟩)
      · show (if (45 : Nat) = 45 then va_cpy (σ.2.1 45) (σ.2.1 45) a a2 k else σ.2.1 45) j = _
        rw [if_pos rfl, cpy_at]
      · show (if (46 : Nat) = 46 then va_cpy (σ.2.2 46) (σ.2.2 46) a a2 k else σ.2.2 46) j = _
        rw [if_pos rfl, cpy_at]
      · show (if (47 : Nat) = 47 then va_cpy (σ.1 47) (σ.1 47) a a2 k else σ.1 47) j = _
        rw [if_pos rfl, cpy_at]
theorem x_copyElements44_44 (hO : sOk S) (hS : cSl σ S) (i j c : Int32) : mNR g l (d + 2) 108 [.ref 0, .int (nI 3), .int i, .int (nI 3), .int j, .int c] lk ex σ (.int (if (S 3).1 = -1 ∨ (S 3).1 = -1 then -11 else if (S 3).1 = (S 3).1 then (if covB (S 3).2 i c = true ∧ covB (S 3).2 j c = true then c else -13) else -12)) (fun σ1 => (∃ a a2 n, i = nI a ∧ j = nI a2 ∧ c = nI n ∧ a + n ≤ (S 3).2 ∧ a2 + n ≤ (S 3).2 ∧ (S 3).1 ≠ -1 ∧ (S 3).1 = (S 3).1 ∧ cpP 44 44 a a2 n σ σ1) ∨ (¬ ((S 3).1 ≠ -1 ∧ (S 3).1 = (S 3).1 ∧ covB (S 3).2 i c = true ∧ covB (S 3).2 j c = true) ∧ σ1 = σ)) := by
  obtain ⟨s1, s2⟩ := hS 3 (by omega)
  obtain ⟨o1, -⟩ := hO 3 (by omega)
  obtain ⟨u1, u2⟩ := hS 3 (by omega)
  obtain ⟨p1, -⟩ := hO 3 (by omega)
  have s1 : σ.1 44 3 = (S 3).1 := s1
  have s2 : σ.1 44 4 = nI (S 3).2 := s2
  have u1 : σ.1 44 3 = (S 3).1 := u1
  have u2 : σ.1 44 4 = nI (S 3).2 := u2
  have ok : mOkP md_X8_copyElements := ok_at 108 (by decide) rfl
  refine mC_of (md := md_X8_copyElements) rfl (lt_at (by decide)) rfl ?_
  refine mGo_run (n := 400) ok rfl ?_
  refine mGo_callP ok rfl (by omega) (c_slotAt44 (d := d)) ?_
  refine mGo_run (n := 400) ok rfl ?_
  refine mGo_callP ok rfl (by omega) (c_slotAt44 (d := d)) ?_
  refine mGo_run (n := 400) ok rfl ?_
  refine mGo_callP ok rfl (by omega) (c_isEmpty44 (d := d)) ?_
  rw [s1]
  by_cases he : (S 3).1 = -1
  · rw [if_pos he, if_pos (Or.inl he)]
    refine mGo_if ok rfl (fun h1 => ?_) (fun h1 => ?_)
    · exact absurd h1 (by decide)
    · refine mGo_run (n := 400) ok rfl ?_
      exact mGo_ret ok rfl trivial (⟨rfl, rfl, Or.inr ⟨fun z => z.1 he, rfl⟩⟩)
  · rw [if_neg he]
    refine mGo_if ok rfl (fun h1 => ?_) (fun h1 => ?_)
    · refine mGo_run (n := 400) ok rfl ?_
      refine mGo_callP ok rfl (by omega) (c_isEmpty44 (d := d)) ?_
      rw [u1]
      by_cases hf : (S 3).1 = -1
      · rw [if_pos hf, if_pos (Or.inr hf)]
        refine mGo_if ok rfl (fun h2 => ?_) (fun h2 => ?_)
        · exact absurd h2 (by decide)
        · refine mGo_run (n := 400) ok rfl ?_
          exact mGo_ret ok rfl trivial (⟨rfl, rfl, Or.inr ⟨fun z => z.1 (z.2.1.trans hf), rfl⟩⟩)
      · rw [if_neg hf, if_neg (fun z => z.elim he hf)]
        refine mGo_if ok rfl (fun h2 => ?_) (fun h2 => ?_)
        · refine mGo_run (n := 400) ok rfl ?_
          first | rw [s1, u1] | rw [s1]
          refine mGo_if ok rfl (fun h3 => ?_) (fun h3 => ?_)
          · have h3 : (S 3).1 = (S 3).1 := h3
            rw [if_pos h3]
            refine mGo_run (n := 400) ok rfl ?_
            refine mGo_callP ok rfl (by omega) (c_covers44 (d := d) s2 i c) ?_
            cases hc : covB (S 3).2 i c with
            | false =>
              rw [if_neg (fun z => by cases z.1)]
              refine mGo_if ok rfl (fun h4 => ?_) (fun h4 => ?_)
              · refine mGo_run (n := 400) ok rfl ?_
                exact mGo_ret ok rfl trivial (⟨rfl, rfl, Or.inr ⟨fun z => (by cases z.2.2.1), rfl⟩⟩)
              · exact absurd rfl h4
            | true =>
              refine mGo_if ok rfl (fun h4 => ?_) (fun h4 => ?_)
              · exact absurd h4 (by decide)
              · refine mGo_run (n := 400) ok rfl ?_
                refine mGo_callP ok rfl (by omega) (c_covers44 (d := d) u2 j c) ?_
                cases hc2 : covB (S 3).2 j c with
                | false =>
                  rw [if_neg (fun z => by cases z.2)]
                  refine mGo_if ok rfl (fun h5 => ?_) (fun h5 => ?_)
                  · refine mGo_run (n := 400) ok rfl ?_
                    exact mGo_ret ok rfl trivial (⟨rfl, rfl, Or.inr ⟨fun z => (by cases z.2.2.2), rfl⟩⟩)
                  · exact absurd rfl h5
                | true =>
                  rw [if_pos ⟨rfl, rfl⟩]
                  obtain ⟨a, n, rfl, rfl, hac⟩ := (qCov_iff o1).mp (covB_iff.mp hc)
                  obtain ⟨a2, n2, rfl, hn2, hac2⟩ := (qCov_iff p1).mp (covB_iff.mp hc2)
                  have e : n = n2 := (nI_eq (by omega) (by omega)).mp hn2
                  subst e
                  refine mGo_if ok rfl (fun h5 => ?_) (fun h5 => ?_)
                  · exact absurd h5 (by decide)
                  · refine mGo_run (n := 400) ok rfl ?_
                    refine mGo_callV ok rfl (by omega) (c_copyTo44_44 (d := d) o1 p1 s2 u2 hac hac2) (fun τ hτ => ?_)
                    refine mGo_run (n := 400) ok rfl ?_
                    exact mGo_ret ok rfl trivial (⟨rfl, rfl, Or.inl ⟨a, a2, n, rfl, rfl, rfl, hac, hac2, he, h3, hτ⟩⟩)
          · have h3 : ¬ (S 3).1 = (S 3).1 := h3
            rw [if_neg h3]
            refine mGo_run (n := 400) ok rfl ?_
            exact mGo_ret ok rfl trivial (⟨rfl, rfl, Or.inr ⟨fun z => h3 z.2.1, rfl⟩⟩)
        · exact absurd rfl h2
    · exact absurd rfl h1
theorem x_copyElementsN44 {u : Int32} (hu : ¬ ∃ k, k < 4 ∧ u = nI k) (i j c : Int32) : mNP g l (d + 2) 108 [.ref 0, .int (nI 3), .int i, .int u, .int j, .int c] lk ex σ (.int (-1)) := by
  have ok : mOkP md_X8_copyElements := ok_at 108 (by decide) rfl
  refine mC_of (md := md_X8_copyElements) rfl (lt_at (by decide)) rfl ?_
  refine mGo_run (n := 400) ok rfl ?_
  refine mGo_callP ok rfl (by omega) (c_slotAt44 (d := d)) ?_
  refine mGo_run (n := 400) ok rfl ?_
  refine mGo_callP ok rfl (by omega) (c_slotAt0 (d := d) hu) ?_
  refine mGo_run (n := 400) ok rfl ?_
  exact mGo_ret ok rfl trivial (⟨rfl, rfl, rfl⟩)
theorem x_copyElementsM44 {s : Int32} (hs : ¬ ∃ k, k < 4 ∧ s = nI k) (i j c : Int32) : mNP g l (d + 2) 108 [.ref 0, .int s, .int i, .int (nI 3), .int j, .int c] lk ex σ (.int (-1)) := by
  have ok : mOkP md_X8_copyElements := ok_at 108 (by decide) rfl
  refine mC_of (md := md_X8_copyElements) rfl (lt_at (by decide)) rfl ?_
  refine mGo_run (n := 400) ok rfl ?_
  refine mGo_callP ok rfl (by omega) (c_slotAt0 (d := d) hs) ?_
  refine mGo_run (n := 400) ok rfl ?_
  refine mGo_callP ok rfl (by omega) (c_slotAt44 (d := d)) ?_
  refine mGo_run (n := 400) ok rfl ?_
  exact mGo_ret ok rfl trivial (⟨rfl, rfl, rfl⟩)
theorem x_copyElements0 {s u : Int32} (hs : ¬ ∃ k, k < 4 ∧ s = nI k) (hu : ¬ ∃ k, k < 4 ∧ u = nI k) (i j c : Int32) : mNP g l (d + 2) 108 [.ref 0, .int s, .int i, .int u, .int j, .int c] lk ex σ (.int (-1)) := by
  have ok : mOkP md_X8_copyElements := ok_at 108 (by decide) rfl
  refine mC_of (md := md_X8_copyElements) rfl (lt_at (by decide)) rfl ?_
  refine mGo_run (n := 400) ok rfl ?_
  refine mGo_callP ok rfl (by omega) (c_slotAt0 (d := d) hs) ?_
  refine mGo_run (n := 400) ok rfl ?_
  refine mGo_callP ok rfl (by omega) (c_slotAt0 (d := d) hu) ?_
  refine mGo_run (n := 400) ok rfl ?_
  exact mGo_ret ok rfl trivial (⟨rfl, rfl, rfl⟩)
end T
