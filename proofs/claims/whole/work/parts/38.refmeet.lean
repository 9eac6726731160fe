/-! the reference: positions are met -/
/-- nothing has changed but the cells cs -/
def fs (cs : List Nat) (σ σ1 : mHp) : Prop := ∀ i, i ∉ cs → σ1.1 i = σ.1 i ∧ σ1.2.1 i = σ.2.1 i ∧ σ1.2.2 i = σ.2.2 i
theorem fs.refl {cs : List Nat} {σ : mHp} : fs cs σ σ := fun _ _ => ⟨rfl, rfl, rfl⟩
theorem fs.trans {cs : List Nat} {σ σ1 σ2 : mHp} (h1 : fs cs σ σ1) (h2 : fs cs σ1 σ2) : fs cs σ σ2 := fun i hi => by
  obtain ⟨a, b, c⟩ := h1 i hi
  obtain ⟨x, y, z⟩ := h2 i hi
  exact ⟨x.trans a, y.trans b, z.trans c⟩
theorem fs.wide {cs cs2 : List Nat} {σ σ1 : mHp} (h : fs cs σ σ1) (h1 : ∀ i ∈ cs, i ∈ cs2) : fs cs2 σ σ1 := fun i hi => h i (fun q => hi (h1 i q))
theorem fs.WI {cs : List Nat} {i k : Nat} {v : Int32} {σ σ1 : mHp} (h : fs cs σ σ1) (h1 : i ∈ cs) : fs cs σ (mWI σ1 i k v) := fun j hj => by
  obtain ⟨a, b, c⟩ := h j hj
  have ne : ¬ j = i := fun z => hj (z ▸ h1)
  exact ⟨by rw [← a]; simp only [mWI]; rw [if_neg ne], b, c⟩
theorem fs.WL {cs : List Nat} {i k : Nat} {v : Int64} {σ σ1 : mHp} (h : fs cs σ σ1) (h1 : i ∈ cs) : fs cs σ (mWL σ1 i k v) := fun j hj => by
  obtain ⟨a, b, c⟩ := h j hj
  have ne : ¬ j = i := fun z => hj (z ▸ h1)
  exact ⟨a, by rw [← b]; simp only [mWL]; rw [if_neg ne], c⟩
theorem fs_fr {lo hi : Nat} {cs : List Nat} {σ σ1 : mHp} (h : fr lo hi σ σ1) (h1 : ∀ i, lo ≤ i → i < hi → i ∈ cs) : fs cs σ σ1 := fun i hi => h i (fun z => hi (h1 i z.1 z.2))
/-- what the reference changes while it searches -/
def frS (σ σ1 : mHp) : Prop := fs [48, 57, 58, 59] σ σ1 ∧ fm [15, 16, 18, 19, 23] σ σ1
theorem frS.refl {σ : mHp} : frS σ σ := ⟨fs.refl, fm.refl⟩
theorem frS.trans {σ σ1 σ2 : mHp} (h1 : frS σ σ1) (h2 : frS σ1 σ2) : frS σ σ2 := ⟨h1.1.trans h2.1, h1.2.trans h2.2⟩
theorem frS_48 {σ σ1 : mHp} {ks : List Nat} (h : fr 48 49 σ σ1) (hm : fm ks σ σ1) (hk : ∀ k ∈ ks, k ∈ [15, 16, 18, 19, 23]) : frS σ σ1 := by
  refine ⟨fs_fr h (fun i h1 h2 => ?_), hm.wide hk⟩
  have e : i = 48 := by omega
  subst e
  simp
theorem frS.mF {σ σ1 : mHp} {F : aF} (h : frS σ σ1) (hm : mF σ F) : mF σ1 F := by
  refine ⟨by rw [(h.2 0 (by decide)).1]; exact hm.1, fun j hj => ?_⟩
  rw [(h.1 49 (by decide)).1, (h.1 50 (by decide)).1, (h.1 51 (by decide)).1]
  exact hm.2 j hj
/-- the positions met, and their ranks -/
def sM (σ : mHp) (P : List aP) (R : Nat → Nat) : Prop := σ.1 48 23 = nI P.length ∧ ∀ i p, P[i]? = some p → σ.2.1 57 i = p.1 ∧ σ.2.1 58 i = p.2 ∧ σ.1 59 i = nI (R i)
theorem sM_L {σ σ1 : mHp} {P : List aP} {R : Nat → Nat} (h : fr 48 49 σ σ1) (hm : fm [15, 16, 18, 19] σ σ1) (hs : sM σ P R) : sM σ1 P R := by
  refine ⟨by rw [(hm 23 (by decide)).1]; exact hs.1, fun i p hp => ?_⟩
  rw [(h 57 (by omega)).2.1, (h 58 (by omega)).2.1, (h 59 (by omega)).1]
  exact hs.2 i p hp
section T
variable {g : mG} {l : Launch} {d : Nat} {lk : Nat} {ex : mSh} {σ : mHp} {F : aF} {man : Nat} {P : List aP} {R : Nat → Nat}
theorem m_placeOf (hs : sM σ P R) (hn : nd P) (hl : P.length ≤ 301) (p : aP) : mNP g l d 158 [.ref 48, .long p.1, .long p.2] lk ex σ (.int (if p ∈ P then nI (ix P p) else -5)) := by
  have ok : mOkP md_X9_placeOf := ok_at 158 (by decide) rfl
  refine mC_of (md := md_X9_placeOf) rfl (lt_at (by decide)) rfl ?_
  refine mGo_runS 3 (n := 400) ok rfl ?_
  have loop : ∀ m i, i + m = P.length → (∀ j, j < i → P[j]? ≠ some p) → mGo g l d md_X9_placeOf (SH lk ex).length (mTot (SH lk ex)) (3, [some (.ref 48), some (.long p.1), none, some (.long p.2), none, some (.int (nI i))], [], SH lk ex, σ) (fun r sp σ1 => r = some (.int (if p ∈ P then nI (ix P p) else -5)) ∧ sp = SH lk ex ∧ σ1 = σ) := by
    intro m
    induction m with
    | zero =>
      intro i hi hb
      have hno : p ∉ P := fun z => hb _ (by have := ix_lt z; omega) (ix_at z)
      refine mGo_run (n := 400) ok rfl ?_
      rw [hs.1]
      refine mGo_ifI ok rfl (nI_leI (a := P.length) (b := i) (by omega) (by omega)) (fun h => ?_) (fun h => ?_)
      · refine mGo_run (n := 400) ok rfl ?_
        exact mGo_ret ok rfl trivial (⟨by rw [if_neg hno], rfl, rfl⟩)
      · omega
    | succ m ih =>
      intro i hi hb
      have hil : i < P.length := by omega
      obtain ⟨s1, s2, s3⟩ := hs.2 i P[i] (List.getElem?_eq_getElem hil)
      have next : P[i]? ≠ some p → mGo g l d md_X9_placeOf (SH lk ex).length (mTot (SH lk ex)) (39, [some (.ref 48), some (.long p.1), none, some (.long p.2), none, some (.int (nI i))], [], SH lk ex, σ) (fun r sp σ1 => r = some (.int (if p ∈ P then nI (ix P p) else -5)) ∧ sp = SH lk ex ∧ σ1 = σ) := by
        intro hne
        refine mGo_runS 3 (n := 400) ok rfl ?_
        rw [nI_1]
        exact ih (i + 1) (by omega) (fun j hj => by
          rcases Nat.lt_or_ge j i with z | z
          · exact hb j z
          · have : j = i := by omega
            subst this; exact hne)
      refine mGo_run (n := 400) ok rfl ?_
      rw [hs.1]
      refine mGo_ifI ok rfl (nI_leI (a := P.length) (b := i) (by omega) (by omega)) (fun h => ?_) (fun h => ?_)
      · omega
      · refine mGo_run (n := 400) ok rfl ?_
        refine mGo_side ok rfl (nI_in (by omega) (by omega)) ?_
        rw [nI_clamp (n := i) (by omega), s1]
        refine mGo_run (n := 400) ok rfl ?_
        refine mGo_ifI ok rfl (lg0) (fun h1 => ?_) (fun h1 => ?_)
        · refine mGo_run (n := 400) ok rfl ?_
          refine mGo_side ok rfl (nI_in (by omega) (by omega)) ?_
          rw [nI_clamp (n := i) (by omega), s2]
          refine mGo_run (n := 400) ok rfl ?_
          refine mGo_ifI ok rfl (lg0) (fun h2 => ?_) (fun h2 => ?_)
          · have e : P[i]? = some p := by rw [List.getElem?_eq_getElem hil]; exact congrArg some (Prod.ext h1 h2)
            refine mGo_run (n := 400) ok rfl ?_
            exact mGo_ret ok rfl trivial (⟨by rw [if_pos (List.mem_of_getElem? e), ix_of hn e], rfl, rfl⟩)
          · exact next (fun z => h2 (by rw [List.getElem?_eq_getElem hil] at z; rw [Option.some.inj z]))
        · exact next (fun z => h1 (by rw [List.getElem?_eq_getElem hil] at z; rw [Option.some.inj z]))
  exact loop P.length 0 (by omega) (fun j hj => by omega)
theorem m_stand (hs : sM σ P R) (hl : P.length ≤ 301) {i : Nat} (hi : i < P.length) : mNV g l d 160 [.ref 48, .int (nI i)] lk ex σ (fun σ1 => σ1 = mWL (mWL σ 48 15 (at0 P i).1) 48 16 (at0 P i).2) := by
  have e0 : at0 P i = P[i] := by unfold at0; rw [List.getElem?_eq_getElem hi]; rfl
  obtain ⟨s1, s2, s3⟩ := hs.2 i P[i] (List.getElem?_eq_getElem hi)
  rw [e0]
  have ok : mOkP md_X9_stand := ok_at 160 (by decide) rfl
  refine mC_of (md := md_X9_stand) rfl (lt_at (by decide)) rfl ?_
  refine mGo_run (n := 400) ok rfl ?_
  refine mGo_side ok rfl (nI_in (by omega) (by omega)) ?_
  rw [nI_clamp (n := i) (by omega), s1]
  refine mGo_run (n := 400) ok rfl ?_
  refine mGo_side ok rfl (nI_in (by omega) (by omega)) ?_
  rw [nI_clamp (by omega), show (mWL σ 48 15 P[i].1).2.1 58 i = P[i].2 by rw [WL_at, if_neg (by omega)]; exact s2]
  refine mGo_run (n := 400) ok rfl ?_
  exact mGo_ret ok rfl trivial (⟨rfl, rfl, rfl⟩)
theorem m_meet (hs : sM σ P (fun _ => 0)) (hn : nd P) (hl : P.length ≤ 301) {p : aP} (hq : mQ σ p.1 p.2) : mNV g l (d + 1) 159 [.ref 48] lk ex σ (fun σ1 => frS σ σ1 ∧ fm [23] σ σ1 ∧ sM σ1 (addP P p) (fun _ => 0)) := by
  have ok : mOkP md_X9_meet := ok_at 159 (by decide) rfl
  refine mC_of (md := md_X9_meet) rfl (lt_at (by decide)) rfl ?_
  refine mGo_run (n := 400) ok rfl ?_
  rw [hq.1, hq.2]
  refine mGo_callP ok rfl (by omega) (m_placeOf (d := d) hs hn hl p) ?_
  refine mGo_run (n := 400) ok rfl ?_
  by_cases hp : p ∈ P
  · rw [if_pos hp, show addP P p = P by unfold addP; rw [if_pos hp]]
    have := ix_lt hp
    refine mGo_if ok rfl (fun h => ?_) (fun h => ?_)
    · exact absurd (show nI (ix P p) < 0 by rw [h]; decide) (nI_pos (by omega))
    · refine mGo_run (n := 400) ok rfl ?_
      exact mGo_ret ok rfl trivial (⟨rfl, rfl, frS.refl, fm.refl, hs⟩)
  · rw [if_neg hp]
    refine mGo_if ok rfl (fun h => ?_) (fun h => ?_)
    · refine mGo_run (n := 400) ok rfl ?_
      rw [hs.1]
      refine mGo_ifI ok rfl (nI_ltI (a := 300) (b := P.length) (by omega) (by omega)) (fun h1 => ?_) (fun h1 => ?_)
      · refine mGo_run (n := 400) ok rfl ?_
        exact mGo_ret ok rfl trivial (⟨rfl, rfl, frS.refl, fm.refl, by rw [show addP P p = P by unfold addP; rw [if_neg hp, if_neg (by omega)]]; exact hs⟩)
      · refine mGo_run (n := 400) ok rfl ?_
        rw [hs.1, hq.1]
        refine mGo_side ok rfl (nI_in (by omega) (by omega)) ?_
        rw [nI_clamp (by omega)]
        refine mGo_run (n := 400) ok rfl ?_
        rw [show (mWL σ 57 P.length p.1).1 48 23 = nI P.length from hs.1, show (mWL σ 57 P.length p.1).2.1 48 16 = p.2 by rw [WL_at, if_neg (by omega)]; exact hq.2]
        refine mGo_side ok rfl (nI_in (by omega) (by omega)) ?_
        rw [nI_clamp (by omega)]
        refine mGo_run (n := 400) ok rfl ?_
        rw [show (mWL (mWL σ 57 P.length p.1) 58 P.length p.2).1 48 23 = nI P.length from hs.1]
        refine mGo_side ok rfl (nI_in (by omega) (by omega)) ?_
        rw [nI_clamp (by omega)]
        refine mGo_run (n := 400) ok rfl ?_
        rw [show (mWI (mWL (mWL σ 57 P.length p.1) 58 P.length p.2) 59 P.length 0).1 48 23 = nI P.length by rw [WI_at, if_neg (by omega)]; exact hs.1, nI_1]
        have ea : addP P p = P ++ [p] := by unfold addP; rw [if_neg hp, if_pos (by omega)]
        refine mGo_ret ok rfl trivial ⟨rfl, rfl, ⟨((((fs.refl.WL (by decide)).WL (by decide)).WI (by decide)).WI (by decide)), ((((fm.refl.WL (fun z => absurd z (by decide))).WL (fun z => absurd z (by decide))).WI (fun z => absurd z (by decide))).WI (fun _ => by decide))⟩, ((((fm.refl.WL (fun z => absurd z (by decide))).WL (fun z => absurd z (by decide))).WI (fun z => absurd z (by decide))).WI (fun _ => by decide)), ?_⟩
        rw [ea]
        refine ⟨by rw [WI_at, if_pos ⟨rfl, rfl⟩]; simp, fun i x hx => ?_⟩
        rcases Nat.lt_or_ge i P.length with z | z
        · rw [List.getElem?_append_left z] at hx
          obtain ⟨s1, s2, s3⟩ := hs.2 i x hx
          have ne : ¬ i = P.length := by omega
          refine ⟨?_, ?_, ?_⟩
          · show (mWL (mWL σ 57 P.length p.1) 58 P.length p.2).2.1 57 i = _
            rw [WL_at, if_neg (by omega), WL_at, if_neg (fun y => ne y.2)]; exact s1
          · show (mWL (mWL σ 57 P.length p.1) 58 P.length p.2).2.1 58 i = _
            rw [WL_at, if_neg (fun y => ne y.2), WL_at, if_neg (by omega)]; exact s2
          · rw [WI_at, if_neg (by omega), WI_at, if_neg (fun y => ne y.2)]; exact s3
        · have hl2 := (List.getElem?_eq_some_iff.mp hx).1
          simp at hl2
          have e : i = P.length := by omega
          subst e
          simp at hx
          subst hx
          refine ⟨?_, ?_, ?_⟩
          · show (mWL (mWL σ 57 P.length p.1) 58 P.length p.2).2.1 57 P.length = _
            rw [WL_at, if_neg (by omega), WL_at, if_pos ⟨rfl, rfl⟩]
          · show (mWL (mWL σ 57 P.length p.1) 58 P.length p.2).2.1 58 P.length = _
            rw [WL_at, if_pos ⟨rfl, rfl⟩]
          · rw [WI_at, if_neg (by omega), WI_at, if_pos ⟨rfl, rfl⟩]; rfl
    · exact absurd rfl h
end T
