/-! the reference: is it a move; replies -/
section T
variable {g : mG} {l : Launch} {d : Nat} {lk : Nat} {ex : mSh} {σ : mHp} {F : aF}
theorem m_find1 (hf : fOk F) (hm : mF σ F) {c o : Int64} (hq : mQ σ c o) {i : Nat} {q : Nat × Nat} (hi : (mvs F c o)[i]? = some q) : mNR g l (d + 1) 153 [.ref 48, .int (nI i)] lk ex σ (.int (nI i)) (fun σ1 => σ1 = mWI (mWI σ 48 18 (nI q.1)) 48 19 (nI q.2)) := by
  have hil := (List.getElem?_eq_some_iff.mp hi).1
  have hml := mvs_len hf c o
  refine mC_mono (m_findMove (d := d) hf hm hq (nI i)) (fun r sp σ1 h => ?_)
  obtain ⟨h1, h2⟩ := h
  rcases h2 with ⟨i2, q2, e1, e2, e3, e4⟩ | ⟨e1, e2, e3⟩
  · have hl2 := (List.getElem?_eq_some_iff.mp e2).1
    have : i = i2 := (nI_eq (by omega) (by omega)).mp e1
    subst this
    rw [hi] at e2
    cases e2
    exact ⟨e3, h1, e4⟩
  · exact absurd rfl (e1 i hil)
theorem m_countMoves (hf : fOk F) (hm : mF σ F) {c o : Int64} (hq : mQ σ c o) : mNP g l (d + 2) 154 [.ref 48] lk ex σ (.int (nI (mvs F c o).length)) := by
  have hml := mvs_len hf c o
  have ok : mOkP md_X9_countMoves := ok_at 154 (by decide) rfl
  refine mC_of (md := md_X9_countMoves) rfl (lt_at (by decide)) rfl ?_
  refine mGo_run (n := 400) ok rfl ?_
  refine mGo_call ok rfl (by omega) (m_findMove (d := d) hf hm hq (-1)) (fun r sp σ1 h => ?_)
  obtain ⟨rfl, h2⟩ := h
  rcases h2 with ⟨i2, q2, e1, e2, e3, e4⟩ | ⟨e1, rfl, rfl⟩
  · have hl2 := (List.getElem?_eq_some_iff.mp e2).1
    exact absurd (show nI i2 < 0 by rw [← e1]; decide) (nI_pos (by omega))
  · refine mGo_run (n := 400) ok rfl ?_
    exact mGo_ret ok rfl trivial (⟨rfl, rfl, rfl⟩)
theorem m_isMove1 (hf : fOk F) (hm : mF σ F) {c o : Int64} (hq : mQ σ c o) {i : Nat} {q : Nat × Nat} (hi : (mvs F c o)[i]? = some q) : mNR g l (d + 3) 155 [.ref 48, .int (nI i)] lk ex σ (.int 1) (fun σ1 => σ1 = mWI (mWI σ 48 18 (nI q.1)) 48 19 (nI q.2)) := by
  have hil := (List.getElem?_eq_some_iff.mp hi).1
  have hml := mvs_len hf c o
  have ok : mOkP md_X9_isMove := ok_at 155 (by decide) rfl
  refine mC_of (md := md_X9_isMove) rfl (lt_at (by decide)) rfl ?_
  refine mGo_run (n := 400) ok rfl ?_
  refine mGo_if ok rfl (fun h => ?_) (fun h => ?_)
  · exact absurd h (nI_pos (by omega))
  · refine mGo_run (n := 400) ok rfl ?_
    refine mGo_callP ok rfl (by omega) (m_countMoves (d := d) hf hm hq) ?_
    refine mGo_run (n := 400) ok rfl ?_
    refine mGo_ifI ok rfl (nI_leI (a := (mvs F c o).length) (b := i) (by omega) (by omega)) (fun h1 => ?_) (fun h1 => ?_)
    · omega
    · refine mGo_run (n := 400) ok rfl ?_
      refine mGo_callR ok rfl (by omega) (m_find1 (d := d) hf hm hq hi) (fun σ1 hσ1 => ?_)
      refine mGo_run (n := 400) ok rfl ?_
      refine mGo_if ok rfl (fun h2 => ?_) (fun h2 => ?_)
      · refine mGo_run (n := 400) ok rfl ?_
        exact mGo_ret ok rfl (Or.inr rfl) (⟨rfl, rfl, hσ1⟩)
      · exact absurd rfl h2
theorem m_isMove0 (hf : fOk F) (hm : mF σ F) {c o : Int64} (hq : mQ σ c o) {v : Int32} (hv : ¬ ∃ j, j < (mvs F c o).length ∧ v = nI j) : mNP g l (d + 3) 155 [.ref 48, .int v] lk ex σ (.int 0) := by
  have hml := mvs_len hf c o
  have ok : mOkP md_X9_isMove := ok_at 155 (by decide) rfl
  refine mC_of (md := md_X9_isMove) rfl (lt_at (by decide)) rfl ?_
  refine mGo_run (n := 400) ok rfl ?_
  refine mGo_if ok rfl (fun h => ?_) (fun h => ?_)
  · refine mGo_run (n := 400) ok rfl ?_
    exact mGo_ret ok rfl (Or.inl rfl) (⟨rfl, rfl, rfl⟩)
  · refine mGo_run (n := 400) ok rfl ?_
    refine mGo_callP ok rfl (by omega) (m_countMoves (d := d) hf hm hq) ?_
    refine mGo_run (n := 400) ok rfl ?_
    refine mGo_if ok rfl (fun h1 => ?_) (fun h1 => ?_)
    · refine mGo_run (n := 400) ok rfl ?_
      exact mGo_ret ok rfl (Or.inl rfl) (⟨rfl, rfl, rfl⟩)
    · exact absurd ((i_in (by omega)).mp ⟨Int32.not_lt.mp h, Int32.not_le.mp h1⟩) hv
theorem m_countReplies (hf : fOk F) (hm : mF σ F) {q : Nat × Nat} (hv : mV σ q) (ho : mvOk F q) : mNP g l (d + 1) 156 [.ref 48] lk ex σ (.int (nI (rpN F q))) := by
  obtain ⟨o1, o2, o3⟩ := ho
  obtain ⟨v1, v2⟩ := hv
  obtain ⟨w1, w2, w3, w4, w5, w6⟩ := hf.2.2 q.2 o1
  obtain ⟨m1, m2, m3⟩ := hm.2 q.2 o1
  have hn := hf.2.1
  have ok : mOkP md_X9_countReplies := ok_at 156 (by decide) rfl
  refine mC_of (md := md_X9_countReplies) rfl (lt_at (by decide)) rfl ?_
  refine mGo_run (n := 400) ok rfl ?_
  rw [v1, v2]
  refine mGo_ifI ok rfl (nI_eq (a := q.1) (b := 0) (by omega) (by omega)) (fun e => ?_) (fun e => ?_)
  · refine mGo_run (n := 400) ok rfl ?_
    refine mGo_callP ok rfl (by omega) (m_attacksOn (d := d) hf hm o1) ?_
    refine mGo_run (n := 400) ok rfl ?_
    exact mGo_ret ok rfl trivial (⟨by rw [rpN, if_pos e], rfl, rfl⟩)
  · obtain ⟨k0, k2⟩ := o3 e
    have hA := w3 k0
    refine mGo_run (n := 400) ok rfl ?_
    refine mGo_side ok rfl (nI_in (by omega) (by omega)) ?_
    rw [nI_clamp (n := q.2) (by omega), m1]
    refine mGo_sw ok rfl ⟨fun h2 => ?_, fun h2 => ⟨fun h3 => ?_, fun h3 => ⟨fun h4 => ?_, fun h4 => ?_⟩⟩⟩
    · have e1 : aK F q.2 = 1 := (nI_eq (a := aK F q.2) (b := 1) (by omega) (by omega)).mp h2
      refine mGo_run (n := 400) ok rfl ?_
      refine mGo_side ok rfl (nI_in (by omega) (by omega)) ?_
      rw [nI_clamp (n := q.2) (by omega), m2]
      refine mGo_callP ok rfl (by omega) (m_attacksOn (d := d) hf hm (j := aA F q.2) (by omega)) ?_
      refine mGo_run (n := 400) ok rfl ?_
      exact mGo_ret ok rfl trivial (⟨by rw [rpN, if_neg e, if_pos e1], rfl, rfl⟩)
    · have e1 : aK F q.2 = 2 := (nI_eq (a := aK F q.2) (b := 2) (by omega) (by omega)).mp h3
      refine mGo_run (n := 400) ok rfl ?_
      exact mGo_ret ok rfl trivial (⟨by rw [rpN, if_neg e, if_neg (by omega), if_pos e1]; rfl, rfl, rfl⟩)
    · have e1 : aK F q.2 = 3 := (nI_eq (a := aK F q.2) (b := 3) (by omega) (by omega)).mp h4
      refine mGo_run (n := 400) ok rfl ?_
      exact mGo_ret ok rfl trivial (⟨by rw [rpN, if_neg e, if_neg (by omega), if_neg (by omega), if_pos e1]; rfl, rfl, rfl⟩)
    · have n1 : aK F q.2 ≠ 1 := fun z => h2 (by rw [z]; rfl)
      have n2 : aK F q.2 ≠ 2 := fun z => h3 (by rw [z]; rfl)
      have n3 : aK F q.2 ≠ 3 := fun z => h4 (by rw [z]; rfl)
      refine mGo_run (n := 400) ok rfl ?_
      refine mGo_side ok rfl (nI_in (by omega) (by omega)) ?_
      rw [nI_clamp (n := q.2) (by omega), m2]
      refine mGo_callP ok rfl (by omega) (m_attacksOn (d := d) hf hm (j := aA F q.2) (by omega)) ?_
      refine mGo_run (n := 400) ok rfl ?_
      exact mGo_ret ok rfl trivial (⟨by rw [rpN, if_neg e, if_neg n1, if_neg n2, if_neg n3, nI_1], rfl, rfl⟩)
theorem rpN_le (F : aF) (q : Nat × Nat) : rpN F q ≤ 3 := by
  have a1 : ∀ k, atk k ≤ 2 := fun k => by unfold atk; split <;> (try split) <;> omega
  have := a1 (aK F q.2)
  have := a1 (aK F (aA F q.2))
  unfold rpN
  split
  · omega
  · split
    · omega
    · split
      · omega
      · split <;> omega
theorem m_reply (hf : fOk F) (hm : mF σ F) {c o : Int64} (hq : mQ σ c o) {man : Nat} (hman : σ.1 48 17 = nI man) (hm1 : man ≤ 1) {q : Nat × Nat} (hv : mV σ q) (ho : mvOk F q) {r : Nat} (hr : r < rpN F q) : mNV g l (d + 1) 157 [.ref 48, .int (nI r)] lk ex σ (fun σ1 => fr 48 49 σ σ1 ∧ fm [15, 16] σ σ1 ∧ mQ σ1 (rpP F man c o q r).1 (rpP F man c o q r).2) := by
  obtain ⟨o1, o2, o3⟩ := ho
  obtain ⟨v1, v2⟩ := hv
  obtain ⟨w1, w2, w3, w4, w5, w6⟩ := hf.2.2 q.2 o1
  obtain ⟨m1, m2, m3⟩ := hm.2 q.2 o1
  have hn := hf.2.1
  have hr2 := rpN_le F q
  have fin : ∀ x : Int64, rpP F man c o q r = (c ||| x, o) → fr 48 49 σ (mWL σ 48 15 (c ||| x)) ∧ fm [15, 16] σ (mWL σ 48 15 (c ||| x)) ∧ mQ (mWL σ 48 15 (c ||| x)) (rpP F man c o q r).1 (rpP F man c o q r).2 := fun x hx => ⟨fr.refl.WL (by decide) (by decide), fm.refl.WL (fun _ => by decide), by rw [hx]; simp [WL_at], by rw [hx]; simp [WL_at, hq.2]⟩
  have ok : mOkP md_X9_reply := ok_at 157 (by decide) rfl
  refine mC_of (md := md_X9_reply) rfl (lt_at (by decide)) rfl ?_
  refine mGo_run (n := 400) ok rfl ?_
  rw [v1, v2]
  refine mGo_ifI ok rfl (nI_eq (a := q.1) (b := 0) (by omega) (by omega)) (fun e => ?_) (fun e => ?_)
  · have k0 : aK F q.2 ≠ 0 := fun z => by rw [rpN, if_pos e, z] at hr; exact absurd hr (by simp [atk])
    refine mGo_run (n := 400) ok rfl ?_
    refine mGo_callV ok rfl (by omega) (m_attack (d := d) hf hm hq hman hm1 o1 k0 (r := r) (by omega)) (fun σ1 hσ1 => ?_)
    refine mGo_run (n := 400) ok rfl ?_
    exact mGo_ret ok rfl trivial (⟨rfl, rfl, by rw [rpP, if_pos e]; exact hσ1⟩)
  · obtain ⟨k0, k2⟩ := o3 e
    have hA := w3 k0
    refine mGo_run (n := 400) ok rfl ?_
    refine mGo_side ok rfl (nI_in (by omega) (by omega)) ?_
    rw [nI_clamp (n := q.2) (by omega), m1]
    refine mGo_sw ok rfl ⟨fun h2 => ?_, fun h2 => ⟨fun h3 => ?_, fun h3 => ⟨fun h4 => ?_, fun h4 => ?_⟩⟩⟩
    · have e1 : aK F q.2 = 1 := (nI_eq (a := aK F q.2) (b := 1) (by omega) (by omega)).mp h2
      have hr3 : r < atk (aK F (aA F q.2)) := by rw [rpN, if_neg e, if_pos e1] at hr; exact hr
      have ka : aK F (aA F q.2) ≠ 0 := fun z => by rw [z] at hr3; exact absurd hr3 (by simp [atk])
      have n2 : ¬ (q.1 = 2 ∨ q.1 = 3) := fun z => by have := k2.mp z; omega
      refine mGo_run (n := 400) ok rfl ?_
      refine mGo_side ok rfl (nI_in (by omega) (by omega)) ?_
      rw [nI_clamp (n := q.2) (by omega), m2]
      refine mGo_run (n := 400) ok rfl ?_
      refine mGo_callV ok rfl (by omega) (m_attack (d := d) hf hm hq hman hm1 (f := aA F q.2) (by omega) ka (r := r) (by omega)) (fun σ1 hσ1 => ?_)
      refine mGo_run (n := 400) ok rfl ?_
      exact mGo_ret ok rfl trivial (⟨rfl, rfl, by rw [rpP, if_neg e, if_neg (fun z => n2 (Or.inl z)), if_neg (fun z => n2 (Or.inr z)), if_neg (by omega), if_pos hr3]; exact hσ1⟩)
    · have e1 : aK F q.2 = 2 := (nI_eq (a := aK F q.2) (b := 2) (by omega) (by omega)).mp h3
      have hB := w4 (by omega)
      refine mGo_run (n := 400) ok rfl ?_
      rw [v1, hq.1]
      refine mGo_ifI ok rfl (nI_eq (a := q.1) (b := 2) (by omega) (by omega)) (fun h5 => ?_) (fun h5 => ?_)
      · refine mGo_run (n := 400) ok rfl ?_
        refine mGo_side ok rfl (nI_in (by omega) (by omega)) ?_
        rw [nI_clamp (n := q.2) (by omega), m2]
        refine mGo_run (n := 400) ok rfl ?_
        exact mGo_ret ok rfl trivial (⟨rfl, rfl, fin (bit (aA F q.2)) (by rw [rpP, if_neg e, if_pos h5])⟩)
      · have e3 : q.1 = 3 := by rcases k2.mpr e1 with z | z; exact absurd z h5; exact z
        refine mGo_run (n := 400) ok rfl ?_
        refine mGo_side ok rfl (nI_in (by omega) (by omega)) ?_
        rw [nI_clamp (n := q.2) (by omega), m3]
        refine mGo_run (n := 400) ok rfl ?_
        exact mGo_ret ok rfl trivial (⟨rfl, rfl, fin (bit (aB F q.2)) (by rw [rpP, if_neg e, if_neg h5, if_pos e3])⟩)
    · have e1 : aK F q.2 = 3 := (nI_eq (a := aK F q.2) (b := 3) (by omega) (by omega)).mp h4
      have hB := w4 (by omega)
      have n2 : ¬ (q.1 = 2 ∨ q.1 = 3) := fun z => by have := k2.mp z; omega
      refine mGo_run (n := 400) ok rfl ?_
      rw [hq.1]
      refine mGo_ifI ok rfl (nI_eq (a := r) (b := 0) (by omega) (by omega)) (fun h5 => ?_) (fun h5 => ?_)
      · refine mGo_run (n := 400) ok rfl ?_
        refine mGo_side ok rfl (nI_in (by omega) (by omega)) ?_
        rw [nI_clamp (n := q.2) (by omega), m2]
        refine mGo_run (n := 400) ok rfl ?_
        exact mGo_ret ok rfl trivial (⟨rfl, rfl, fin (bit (aA F q.2)) (by rw [rpP, if_neg e, if_neg (fun z => n2 (Or.inl z)), if_neg (fun z => n2 (Or.inr z)), if_pos e1, if_pos h5])⟩)
      · refine mGo_run (n := 400) ok rfl ?_
        refine mGo_side ok rfl (nI_in (by omega) (by omega)) ?_
        rw [nI_clamp (n := q.2) (by omega), m3]
        refine mGo_run (n := 400) ok rfl ?_
        exact mGo_ret ok rfl trivial (⟨rfl, rfl, fin (bit (aB F q.2)) (by rw [rpP, if_neg e, if_neg (fun z => n2 (Or.inl z)), if_neg (fun z => n2 (Or.inr z)), if_pos e1, if_neg h5])⟩)
    · have n1 : aK F q.2 ≠ 1 := fun z => h2 (by rw [z]; rfl)
      have n2 : aK F q.2 ≠ 2 := fun z => h3 (by rw [z]; rfl)
      have n3 : aK F q.2 ≠ 3 := fun z => h4 (by rw [z]; rfl)
      have n4 : ¬ (q.1 = 2 ∨ q.1 = 3) := fun z => by have := k2.mp z; omega
      have hB := w4 (by omega)
      have a1 : atk (aK F (aA F q.2)) ≤ 2 := by unfold atk; split <;> (try split) <;> omega
      refine mGo_run (n := 400) ok rfl ?_
      refine mGo_side ok rfl (nI_in (by omega) (by omega)) ?_
      rw [nI_clamp (n := q.2) (by omega), m2]
      refine mGo_callP ok rfl (by omega) (m_attacksOn (d := d) hf hm (j := aA F q.2) (by omega)) ?_
      refine mGo_run (n := 400) ok rfl ?_
      refine mGo_ifI ok rfl (nI_leI (a := atk (aK F (aA F q.2))) (b := r) (by omega) (by omega)) (fun h5 => ?_) (fun h5 => ?_)
      · refine mGo_run (n := 400) ok rfl ?_
        refine mGo_side ok rfl (nI_in (by omega) (by omega)) ?_
        rw [nI_clamp (n := q.2) (by omega), m3]
        rw [hq.1]
        refine mGo_run (n := 400) ok rfl ?_
        exact mGo_ret ok rfl trivial (⟨rfl, rfl, fin (bit (aB F q.2)) (by rw [rpP, if_neg e, if_neg (fun z => n4 (Or.inl z)), if_neg (fun z => n4 (Or.inr z)), if_neg n3, if_neg (by omega)])⟩)
      · have ka : aK F (aA F q.2) ≠ 0 := fun z => by rw [z] at h5; exact absurd h5 (by simp [atk])
        refine mGo_run (n := 400) ok rfl ?_
        refine mGo_side ok rfl (nI_in (by omega) (by omega)) ?_
        rw [nI_clamp (n := q.2) (by omega), m2]
        refine mGo_run (n := 400) ok rfl ?_
        refine mGo_callV ok rfl (by omega) (m_attack (d := d) hf hm hq hman hm1 (f := aA F q.2) (by omega) ka (r := r) (by omega)) (fun σ1 hσ1 => ?_)
        refine mGo_run (n := 400) ok rfl ?_
        exact mGo_ret ok rfl trivial (⟨rfl, rfl, by rw [rpP, if_neg e, if_neg (fun z => n4 (Or.inl z)), if_neg (fun z => n4 (Or.inr z)), if_neg n3, if_pos (by omega)]; exact hσ1⟩)
end T
