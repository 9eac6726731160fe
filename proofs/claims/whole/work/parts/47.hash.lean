/-! the class Search: the numbers of positions -/
def hX (p : aP) : Int32 := ((p.1 * (-7046029254386353131) + p.2 * (-4417276706812531889)).toUInt64 >>> ((44 : Int32).toInt64.toUInt64 &&& Int64.toUInt64 63)).toInt64.toInt32 &&& 1023
def hs (p : aP) : Nat := (hX p).toNatClampNeg
theorem hX_hs (p : aP) : hX p = nI (hs p) ∧ hs p < 1024 := by
  obtain ⟨j, hj, e⟩ := pk_andE (((p.1 * (-7046029254386353131) + p.2 * (-4417276706812531889)).toUInt64 >>> ((44 : Int32).toInt64.toUInt64 &&& Int64.toUInt64 63)).toInt64.toInt32) (m := 1023) 10 (by decide)
  have e2 : hX p = nI j := e
  have e3 : hs p = j := by unfold hs; rw [e2, nI_clamp (by omega)]
  rw [e3]
  exact ⟨e2, by omega⟩
def ne1 (f : Nat → Int32) (y : Nat) : Nat := if f y = 0 then 0 else 1
theorem cnt_upd {f f1 : Nat → Nat} {y : Nat} (h : ∀ j, j ≠ y → f1 j = f j) (h0 : f y = 0) (h1 : f1 y ≠ 0) : ∀ n, cnt f1 n = cnt f n + (if y < n then 1 else 0) := by
  intro n
  induction n with
  | zero => rfl
  | succ n ih =>
    simp only [cnt]
    rw [ih]
    by_cases z : n = y
    · have a : ¬ y < n := by omega
      have b : y < n + 1 := by omega
      rw [if_neg a, if_pos b, z, if_neg h1, if_pos h0]
    · rw [h n z]
      by_cases x : y < n
      · have b : y < n + 1 := by omega
        rw [if_pos x, if_pos b]; omega
      · have b : ¬ y < n + 1 := by omega
        rw [if_neg x, if_neg b]; omega
theorem cnt_full {f : Nat → Nat} : ∀ n, (∀ i, i < n → f i ≠ 0) → cnt f n = n := by
  intro n
  induction n with
  | zero => intro _; rfl
  | succ n ih =>
    intro h
    simp only [cnt]
    rw [ih (fun i hi => h i (by omega)), if_neg (h n (by omega))]
theorem cnt_zero {f : Nat → Nat} : ∀ n, (∀ i, i < n → f i = 0) → cnt f n = 0 := by
  intro n
  induction n with
  | zero => intro _; rfl
  | succ n ih =>
    intro h
    simp only [cnt]
    rw [ih (fun i hi => h i (by omega)), if_pos (h n (by omega))]
/-- the table of places -/
def hI (f : Nat → Int32) (P : List aP) : Prop := (∀ y, y < 1024 → f y = 0 ∨ ∃ i, i < P.length ∧ f y = nI (i + 1)) ∧ (∀ i p, P[i]? = some p → ∃ t, t < 1024 ∧ f ((hs p + t) % 1024) = nI (i + 1) ∧ ∀ u, u < t → f ((hs p + u) % 1024) ≠ 0) ∧ cnt (ne1 f) 1024 = P.length
theorem hI_nil {f : Nat → Int32} (h : ∀ y, y < 1024 → f y = 0) : hI f [] := ⟨fun y hy => Or.inl (h y hy), fun i p hp => by simp at hp, cnt_zero _ (fun i hi => by unfold ne1; rw [if_pos (h i hi)])⟩
theorem hI_app {f : Nat → Int32} {P : List aP} (h : hI f P) (hl : P.length < 300) {p : aP} {t : Nat} (ht : t < 1024) (h0 : f ((hs p + t) % 1024) = 0) (hu : ∀ u, u < t → f ((hs p + u) % 1024) ≠ 0) : hI (upd f ((hs p + t) % 1024) (nI (P.length + 1))) (P ++ [p]) := by
  have nz : ∀ i, i < 300 → nI (i + 1) ≠ 0 := fun i hi => nI_ne0 (by omega) (by omega)
  have hy : (hs p + t) % 1024 < 1024 := Nat.mod_lt _ (by decide)
  refine ⟨fun y hy => ?_, fun i q hq => ?_, ?_⟩
  · simp only [upd]
    by_cases z : y = (hs p + t) % 1024
    · rw [if_pos z]; exact Or.inr ⟨P.length, by simp, rfl⟩
    · rw [if_neg z]
      rcases h.1 y hy with e | ⟨i, hi, e⟩
      · exact Or.inl e
      · exact Or.inr ⟨i, by simp; omega, e⟩
  · have keep : ∀ y, f y ≠ 0 → upd f ((hs p + t) % 1024) (nI (P.length + 1)) y ≠ 0 := by
      intro y hy
      simp only [upd]
      by_cases z : y = (hs p + t) % 1024
      · rw [if_pos z]; exact nz _ hl
      · rw [if_neg z]; exact hy
    rcases Nat.lt_or_ge i P.length with z | z
    · rw [List.getElem?_append_left z] at hq
      obtain ⟨t1, h1, h2, h3⟩ := h.2.1 i q hq
      refine ⟨t1, h1, ?_, fun u hu1 => keep _ (h3 u hu1)⟩
      have ne : (hs q + t1) % 1024 ≠ (hs p + t) % 1024 := fun e => by rw [e, h0] at h2; exact nz i (by omega) h2.symm
      simp only [upd]
      rw [if_neg ne]; exact h2
    · have hl2 := (List.getElem?_eq_some_iff.mp hq).1
      simp at hl2
      have e : i = P.length := by omega
      subst e
      simp at hq
      subst hq
      refine ⟨t, ht, ?_, fun u hu1 => keep _ (hu u hu1)⟩
      rw [pk_us]
  · rw [cnt_upd (f := ne1 f) (y := (hs p + t) % 1024) (fun j hj => by unfold ne1; rw [pk_un hj]) (by unfold ne1; rw [if_pos h0]) (by unfold ne1; rw [pk_us, if_neg (nz _ hl)]; decide), h.2.2, if_pos hy]
    simp
/-- the positions that the search has met -/
def sP (σ : mHp) (P : List aP) (R : Nat → Nat) : Prop := σ.1 21 10 = nI P.length ∧ (∀ i p, P[i]? = some p → σ.2.1 22 i = p.1 ∧ σ.2.1 23 i = p.2 ∧ σ.1 24 i = nI (R i)) ∧ hI (σ.1 25) P
section T
variable {g : mG} {l : Launch} {d : Nat} {lk : Nat} {ex : mSh} {σ : mHp} {P : List aP} {R : Nat → Nat}
theorem c_placeOf (hs1 : sP σ P R) (hn : nd P) (hl : P.length ≤ 300) (p : aP) : mC g l d 41 [.ref 21, .long p.1, .long p.2] (SH lk ex) σ (fun r sp σ1 => sp = SH lk ex ∧ σ1 = σ ∧ ∃ y, y < 1024 ∧ r = some (.int (nI y)) ∧ ((p ∈ P ∧ σ.1 25 y = nI (ix P p + 1)) ∨ (p ∉ P ∧ σ.1 25 y = 0 ∧ ∃ t, t < 1024 ∧ y = (hs p + t) % 1024 ∧ ∀ u, u < t → σ.1 25 ((hs p + u) % 1024) ≠ 0))) := by
  obtain ⟨c1, c2, c3⟩ := hs1
  have hh := hX_hs p
  have ok : mOkP md_X4_placeOf := ok_at 41 (by decide) rfl
  refine mC_of (md := md_X4_placeOf) rfl (lt_at (by decide)) rfl ?_
  refine mGo_runS 28 (n := 400) ok rfl ?_
  have loop : ∀ m t, t + m = 1024 → ∀ (L5 L9 : Option Value), (∀ u, u < t → σ.1 25 ((hs p + u) % 1024) ≠ 0 ∧ ∀ i, P[i]? = some p → σ.1 25 ((hs p + u) % 1024) ≠ nI (i + 1)) → mGo g l d md_X4_placeOf (SH lk ex).length (mTot (SH lk ex)) (28, [some (.ref 21), some (.long p.1), none, some (.long p.2), none, L5, none, some (.int (nI ((hs p + t) % 1024))), some (.int (nI t)), L9], [], SH lk ex, σ) (fun r sp σ1 => sp = SH lk ex ∧ σ1 = σ ∧ ∃ y, y < 1024 ∧ r = some (.int (nI y)) ∧ ((p ∈ P ∧ σ.1 25 y = nI (ix P p + 1)) ∨ (p ∉ P ∧ σ.1 25 y = 0 ∧ ∃ t, t < 1024 ∧ y = (hs p + t) % 1024 ∧ ∀ u, u < t → σ.1 25 ((hs p + u) % 1024) ≠ 0))) := by
    intro m
    induction m with
    | zero =>
      intro t ht L5 L9 hb
      exfalso
      have e : cnt (ne1 (σ.1 25)) 1024 = 1024 := cnt_full _ (fun y hy => by
        have h1 : (hs p + (y + 1024 - hs p) % 1024) % 1024 = y := by have := hh.2; omega
        have h2 := (hb ((y + 1024 - hs p) % 1024) (by omega)).1
        rw [h1] at h2
        unfold ne1
        rw [if_neg h2]
        decide)
      rw [c3.2.2] at e
      omega
    | succ m ih =>
      intro t ht L5 L9 hb
      have hy : (hs p + t) % 1024 < 1024 := Nat.mod_lt _ (by decide)
      refine mGo_run (n := 400) ok rfl ?_
      refine mGo_ifI ok rfl (nI_leI (a := 1024) (b := t) (by omega) (by omega)) (fun h => ?_) (fun h => ?_)
      · omega
      · refine mGo_run (n := 400) ok rfl ?_
        refine mGo_side ok rfl (nI_in (c := (hs p + t) % 1024) (by omega) (by omega)) ?_
        rw [nI_clamp (by omega)]
        rcases c3.1 _ hy with e | ⟨i, hi, e⟩
        · rw [e]
          refine mGo_run (n := 400) ok rfl ?_
          refine mGo_if ok rfl (fun h1 => ?_) (fun h1 => ?_)
          · refine mGo_run (n := 400) ok rfl ?_
            refine mGo_ret ok rfl trivial ⟨rfl, rfl, (hs p + t) % 1024, hy, rfl, Or.inr ⟨fun hp => ?_, e, t, by omega, rfl, fun u hu => (hb u hu).1⟩⟩
            obtain ⟨t1, g1, g2, g3⟩ := c3.2.1 _ _ (ix_at hp)
            rcases Nat.lt_trichotomy t1 t with z | z | z
            · exact (hb t1 z).2 _ (ix_at hp) g2
            · subst z; rw [e] at g2; exact nI_ne0 (by omega) (by have := ix_lt hp; omega) g2.symm
            · exact g3 t z e
          · exact absurd (by decide) h1
        · rw [e]
          obtain ⟨s1, s2, s3⟩ := c2 i P[i] (List.getElem?_eq_getElem hi)
          have next : P[i]? ≠ some p → ∀ (L9 : Option Value), mGo g l d md_X4_placeOf (SH lk ex).length (mTot (SH lk ex)) (79, [some (.ref 21), some (.long p.1), none, some (.long p.2), none, L5, none, some (.int (nI ((hs p + t) % 1024))), some (.int (nI t)), L9], [], SH lk ex, σ) (fun r sp σ1 => sp = SH lk ex ∧ σ1 = σ ∧ ∃ y, y < 1024 ∧ r = some (.int (nI y)) ∧ ((p ∈ P ∧ σ.1 25 y = nI (ix P p + 1)) ∨ (p ∉ P ∧ σ.1 25 y = 0 ∧ ∃ t, t < 1024 ∧ y = (hs p + t) % 1024 ∧ ∀ u, u < t → σ.1 25 ((hs p + u) % 1024) ≠ 0))) := by
            intro hne L9
            refine mGo_runS 28 (n := 400) ok rfl ?_
            rw [nI_1, nI_1, pk_andN (n := (hs p + t) % 1024 + 1) (by omega) (m := 1023) 10 (by decide), show ((hs p + t) % 1024 + 1) % 2 ^ 10 = (hs p + (t + 1)) % 1024 by omega]
            exact ih (t + 1) (by omega) L5 L9 (fun u hu => by
              rcases Nat.lt_or_ge u t with z | z
              · exact hb u z
              · have : u = t := by omega
                subst this
                refine ⟨by rw [e]; exact nI_ne0 (by omega) (by omega), fun j hj z => ?_⟩
                rw [e] at z
                have hjl := (List.getElem?_eq_some_iff.mp hj).1
                have : i + 1 = j + 1 := (nI_eq (by omega) (by omega)).mp z
                have : i = j := by omega
                subst this
                exact hne hj)
          refine mGo_run (n := 400) ok rfl ?_
          rw [nI_pred]
          refine mGo_if ok rfl (fun h1 => ?_) (fun h1 => ?_)
          · exact absurd h1 (nI_pos (by omega))
          · refine mGo_run (n := 400) ok rfl ?_
            refine mGo_side ok rfl (nI_in (by omega) (by omega)) ?_
            rw [nI_clamp (n := i) (by omega), s1]
            refine mGo_run (n := 400) ok rfl ?_
            refine mGo_ifI ok rfl (lg0) (fun h2 => ?_) (fun h2 => ?_)
            · refine mGo_run (n := 400) ok rfl ?_
              refine mGo_side ok rfl (nI_in (by omega) (by omega)) ?_
              rw [nI_clamp (n := i) (by omega), s2]
              refine mGo_run (n := 400) ok rfl ?_
              refine mGo_ifI ok rfl (lg0) (fun h3 => ?_) (fun h3 => ?_)
              · have ep : P[i]? = some p := by rw [List.getElem?_eq_getElem hi]; exact congrArg some (Prod.ext h2 h3)
                refine mGo_run (n := 400) ok rfl ?_
                exact mGo_ret ok rfl trivial (⟨rfl, rfl, (hs p + t) % 1024, hy, rfl, Or.inl ⟨List.mem_of_getElem? ep, by rw [e, ix_of hn ep]⟩⟩)
              · exact next (fun z => h3 (by rw [List.getElem?_eq_getElem hi] at z; rw [Option.some.inj z])) _
            · exact next (fun z => h2 (by rw [List.getElem?_eq_getElem hi] at z; rw [Option.some.inj z])) _
  have h0 := loop 1024 0 (by omega) (some (.long (p.1 * (-7046029254386353131) + p.2 * (-4417276706812531889)))) none (fun u hu => by omega)
  rw [Nat.add_zero, Nat.mod_eq_of_lt hh.2, ← hh.1] at h0
  exact h0
/-- what is changed when a number is looked up -/
def frN (σ σ1 : mHp) : Prop := fs [21, 22, 23, 24, 25] σ σ1 ∧ ∀ j, j ≠ 10 → j ≠ 11 → σ1.1 21 j = σ.1 21 j
theorem c_numberOf (hs1 : sP σ P (fun _ => 0)) (hn : nd P) (hl : P.length ≤ 300) (p : aP) : mC g l (d + 1) 40 [.ref 21, .long p.1, .long p.2] (SH lk ex) σ (fun r sp σ1 => sp = SH lk ex ∧ frN σ σ1 ∧ ((addP P p).length ≤ 300 → r = some (.int (nI (ix (addP P p) p))) ∧ sP σ1 (addP P p) (fun _ => 0) ∧ σ1.1 21 11 = σ.1 21 11) ∧ (300 < (addP P p).length → σ1.1 21 11 = 1 ∧ r = some (.int 0))) := by
  have hs0 := hs1
  obtain ⟨c1, c2, c3⟩ := hs0
  have ok : mOkP md_X4_numberOf := ok_at 40 (by decide) rfl
  refine mC_of (md := md_X4_numberOf) rfl (lt_at (by decide)) rfl ?_
  refine mGo_run (n := 400) ok rfl ?_
  refine mGo_call ok rfl (by omega) (c_placeOf (d := d) hs1 hn hl p) (fun r sp σ1 hq => ?_)
  obtain ⟨e1, e2, y, hy, e3, hq⟩ := hq
  rw [e1, e2, e3]
  clear e1 e2 e3
  refine mGo_run (n := 400) ok rfl ?_
  refine mGo_side ok rfl (nI_in (by omega) (by omega)) ?_
  rw [nI_clamp (by omega)]
  rcases hq with ⟨hp, e⟩ | ⟨hp, e, t, ht, ey, hu⟩
  · have ea : addP P p = P := by unfold addP; rw [if_pos hp]
    have hil := ix_lt hp
    rw [e, ea]
    refine mGo_ifI ok rfl (nI_eq (a := ix P p + 1) (b := 0) (by omega) (by omega)) (fun h => ?_) (fun h => ?_)
    · omega
    · refine mGo_run (n := 400) ok rfl ?_
      refine mGo_side ok rfl (nI_in (by omega) (by omega)) ?_
      rw [nI_clamp (by omega), e]
      refine mGo_run (n := 400) ok rfl ?_
      rw [nI_pred]
      exact mGo_ret ok rfl trivial (⟨rfl, ⟨fs.refl, fun _ _ _ => rfl⟩, fun _ => ⟨rfl, hs1, rfl⟩, fun z => by omega⟩)
  · rw [e]
    refine mGo_if ok rfl (fun h => ?_) (fun h => ?_)
    · refine mGo_run (n := 400) ok rfl ?_
      rw [c1]
      refine mGo_ifI ok rfl (nI_ltI (a := P.length) (b := 300) (by omega) (by omega)) (fun h1 => ?_) (fun h1 => ?_)
      · have ea : addP P p = P ++ [p] := by unfold addP; rw [if_neg hp, if_pos (by omega)]
        refine mGo_run (n := 400) ok rfl ?_
        rw [c1]
        refine mGo_side ok rfl (nI_in (by omega) (by omega)) ?_
        rw [nI_clamp (by omega)]
        refine mGo_run (n := 400) ok rfl ?_
        rw [show (mWL σ 22 P.length p.1).1 21 10 = nI P.length from c1]
        refine mGo_side ok rfl (nI_in (by omega) (by omega)) ?_
        rw [nI_clamp (by omega)]
        refine mGo_run (n := 400) ok rfl ?_
        rw [show (mWL (mWL σ 22 P.length p.1) 23 P.length p.2).1 21 10 = nI P.length from c1]
        refine mGo_side ok rfl (nI_in (by omega) (by omega)) ?_
        rw [nI_clamp (by omega)]
        refine mGo_run (n := 400) ok rfl ?_
        rw [show (mWI (mWL (mWL σ 22 P.length p.1) 23 P.length p.2) 24 P.length 0).1 21 10 = nI P.length by rw [WI_at, if_neg (by omega)]; exact c1, nI_1]
        rw [show (mWI (mWI (mWL (mWL σ 22 P.length p.1) 23 P.length p.2) 24 P.length 0) 21 10 (nI (P.length + 1))).1 21 10 = nI (P.length + 1) by rw [WI_at, if_pos ⟨rfl, rfl⟩]]
        refine mGo_side ok rfl (nI_in (by omega) (by omega)) ?_
        rw [nI_clamp (by omega)]
        refine mGo_run (n := 400) ok rfl ?_
        refine mGo_side ok rfl (nI_in (by omega) (by omega)) ?_
        rw [nI_clamp (by omega), show (mWI (mWI (mWI (mWL (mWL σ 22 P.length p.1) 23 P.length p.2) 24 P.length 0) 21 10 (nI (P.length + 1))) 25 y (nI (P.length + 1))).1 25 y = nI (P.length + 1) by rw [WI_at, if_pos ⟨rfl, rfl⟩]]
        refine mGo_run (n := 400) ok rfl ?_
        rw [nI_pred, ea]
        refine mGo_ret ok rfl trivial ⟨rfl, ⟨((((fs.refl.WL (by decide)).WL (by decide)).WI (by decide)).WI (by decide)).WI (by decide), fun j h10 h11 => ?_⟩, fun _ => ⟨by rw [ix_new hp], ⟨?_, fun i q hq => ?_, ?_⟩, ?_⟩, fun z => by simp at z; omega⟩
        · rw [WI_at, if_neg (by omega), WI_at, if_neg (fun z => h10 z.2), WI_at, if_neg (by omega)]; rfl
        · rw [WI_at, if_neg (by omega), WI_at, if_pos ⟨rfl, rfl⟩]; simp
        · rcases Nat.lt_or_ge i P.length with z | z
          · rw [List.getElem?_append_left z] at hq
            obtain ⟨s1, s2, s3⟩ := c2 i q hq
            have ne : ¬ i = P.length := by omega
            refine ⟨?_, ?_, ?_⟩
            · show (mWL (mWL σ 22 P.length p.1) 23 P.length p.2).2.1 22 i = _
              rw [WL_at, if_neg (by omega), WL_at, if_neg (fun y => ne y.2)]; exact s1
            · show (mWL (mWL σ 22 P.length p.1) 23 P.length p.2).2.1 23 i = _
              rw [WL_at, if_neg (fun y => ne y.2), WL_at, if_neg (by omega)]; exact s2
            · rw [WI_at, if_neg (by omega), WI_at, if_neg (by omega), WI_at, if_neg (fun y => ne y.2)]; exact s3
          · have hl2 := (List.getElem?_eq_some_iff.mp hq).1
            simp at hl2
            have e : i = P.length := by omega
            subst e
            simp at hq
            subst hq
            refine ⟨?_, ?_, ?_⟩
            · show (mWL (mWL σ 22 P.length p.1) 23 P.length p.2).2.1 22 P.length = _
              rw [WL_at, if_neg (by omega), WL_at, if_pos ⟨rfl, rfl⟩]
            · show (mWL (mWL σ 22 P.length p.1) 23 P.length p.2).2.1 23 P.length = _
              rw [WL_at, if_pos ⟨rfl, rfl⟩]
            · rw [WI_at, if_neg (by omega), WI_at, if_neg (by omega), WI_at, if_pos ⟨rfl, rfl⟩]; rfl
        · have e2 : (mWI (mWI (mWI (mWL (mWL σ 22 P.length p.1) 23 P.length p.2) 24 P.length 0) 21 10 (nI (P.length + 1))) 25 y (nI (P.length + 1))).1 25 = upd (σ.1 25) y (nI (P.length + 1)) := by
            funext j
            rw [WI_at]
            by_cases z : j = y
            · rw [if_pos ⟨rfl, z⟩, z, pk_us]
            · rw [if_neg (fun x => z x.2), pk_un z, WI_at, if_neg (by omega), WI_at, if_neg (by omega)]; rfl
          rw [e2, ey]
          exact hI_app c3 (by omega) ht (by rw [← ey]; exact e) hu
        · rw [WI_at, if_neg (by omega), WI_at, if_neg (by omega), WI_at, if_neg (by omega)]; rfl
      · have ea : addP P p = P ++ [p] := by unfold addP; rw [if_neg hp, if_pos (by omega)]
        refine mGo_run (n := 400) ok rfl ?_
        refine mGo_side ok rfl (Or.inr rfl) ?_
        refine mGo_run (n := 400) ok rfl ?_
        rw [ea]
        refine mGo_ret ok rfl trivial ⟨rfl, ⟨fs.refl.WI (by decide), fun j h10 h11 => ?_⟩, fun z => by simp at z; omega, fun _ => ⟨?_, rfl⟩⟩
        · rw [WI_at, if_neg (fun z => h11 z.2)]
        · rw [WI_at, if_pos ⟨rfl, rfl⟩]
    · exact absurd rfl h
end T
