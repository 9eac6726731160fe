/-! the reference's way of reading a text is the class's: the pure side -/
def nx (T : aI) (p k : Nat) : Prop := k < T.1 → ¬ (2 ≤ cls (T.2 k) ∧ cls (T.2 k) ≤ p)
/-- what was read from k to k1 makes v, over the formulas F1; with no room (fl1) nothing -/
def BR (T : aI) (t k : Nat) (F : aF) (fl : Bool) (v k1 : Nat) (F1 : aF) (fl1 : Bool) : Prop := (fl = true → fl1 = true) ∧ (fl = false → ∀ ops vals, tg t ops → BF T k (T.1 - k) ops vals F = if fl1 = true then none else BF T k1 (T.1 - k1) ops (v :: vals) F1)
def rel (T : aI) (p t dp k : Nat) (mk : Bool) (F : aF) (fl : Bool) (v k1 : Nat) (flt : Option Nat) (F1 : aF) (fl1 : Bool) : Prop := match flt with
  | some e => AF T true dp k (T.1 - k) = some e
  | none => k < k1 ∧ k1 ≤ T.1 ∧ AF T true dp k (T.1 - k) = AF T false dp k1 (T.1 - k1) ∧ nx T p k1 ∧ (mk = true → BR T t k F fl v k1 F1 fl1)
def mdP (mk : Bool) (F : aF) (fl : Bool) (c a b : Nat) : Nat × aF × Bool := if mk = true then aMm F fl c a b else (0, F, fl)
theorem aMm_ok {F : aF} (hf : fOk F) (fl : Bool) {k a b : Nat} (hk : 1 ≤ k ∧ k ≤ 4) (ha : a < aN F) (hb : b < aN F) (hb1 : k = 1 → b = 0) : fOk (aMm F fl k a b).2.1 ∧ (aMm F fl k a b).1 < aN (aMm F fl k a b).2.1 ∧ fle F (aMm F fl k a b).2.1 := by
  cases fl with
  | true =>
    obtain ⟨j, e, h⟩ := aMm_full (F := F) k a b
    rw [e]
    exact ⟨hf, h hf.1, fle.refl⟩
  | false =>
    obtain ⟨m1, m2, m3⟩ := aMk_ok hf hk ha hb hb1
    rw [aMm_of hf]
    cases e : (aMk F k a b).1 with
    | none => exact ⟨hf, by have := hf.1; show 0 < aN F; omega, fle.refl⟩
    | some j => exact ⟨m1, m2 j e, aMk_fle F k a b⟩
theorem mdP_ok {F : aF} (hf : fOk F) (mk fl : Bool) {k a b : Nat} (hk : 1 ≤ k ∧ k ≤ 4) (ha : a < aN F) (hb : b < aN F) (hb1 : k = 1 → b = 0) : fOk (mdP mk F fl k a b).2.1 ∧ (mdP mk F fl k a b).1 < aN (mdP mk F fl k a b).2.1 ∧ fle F (mdP mk F fl k a b).2.1 := by
  unfold mdP
  cases mk with
  | true => exact aMm_ok hf fl hk ha hb hb1
  | false => exact ⟨hf, by have := hf.1; show 0 < aN F; omega, fle.refl⟩
theorem tg_le {t t1 : Nat} {ops : List Nat} (h : tg t ops) (h1 : t1 ≤ t) : tg t1 ops := by
  cases ops with
  | nil => trivial
  | cons c x => have h : t < c := h; show t1 < c; omega
theorem AF_Lv {T : aI} {dp k q c : Nat} (hk : k ≤ T.1) (h : AF T false dp k (T.1 - k) = none) (hn : nx T q k) (hq : 1 ≤ q) (hc : c ≤ q + 1) (hc4 : c ≤ 4) (h44 : c = 4 → q = 4) : c ≤ Lv T k (T.1 - k) := by
  unfold Lv
  by_cases h0 : T.1 - k = 0
  · rw [if_pos h0]; exact hc4
  · rw [if_neg h0]
    by_cases h7 : cls (T.2 k) = 7
    · rw [if_pos h7]; exact hc4
    · rw [if_neg h7]
      rw [show T.1 - k = (T.1 - k - 1) + 1 by omega] at h
      simp only [AF] at h
      rw [if_neg (fun z => h7 z.1)] at h
      by_cases h2 : 2 ≤ cls (T.2 k) ∧ cls (T.2 k) ≤ 4
      · rw [if_pos h2]
        have h3 := hn (by omega)
        split <;> omega
      · rw [if_neg h2] at h; cases h
theorem BF_mk {T : aI} {k m c a b : Nat} {ops vals : List Nat} {F : aF} (hf : fOk F) (hc : 2 ≤ c ∧ c ≤ 4) (h : c ≤ Lv T k m) : BF T k m (c :: ops) (b :: a :: vals) F = if (aMm F false c a b).2.2 = true then none else BF T k m ops ((aMm F false c a b).1 :: vals) (aMm F false c a b).2.1 := by
  rw [BF_join (by omega) h, aMm_of hf]
  unfold jn mkS
  rw [if_neg (by omega)]
  cases e : (aMk F c a b).1 with
  | none => simp only [e]; rfl
  | some j => simp only [e]; rfl
theorem BF_mk1 {T : aI} {k m a : Nat} {ops vals : List Nat} {F : aF} (hf : fOk F) (h : 1 ≤ Lv T k m) : BF T k m (1 :: ops) (a :: vals) F = if (aMm F false 1 a 0).2.2 = true then none else BF T k m ops ((aMm F false 1 a 0).1 :: vals) (aMm F false 1 a 0).2.1 := by
  rw [BF_join (by omega) h, aMm_of hf]
  unfold jn mkS
  rw [if_pos rfl]
  cases e : (aMk F 1 a 0).1 with
  | none => simp only [e]; rfl
  | some j => simp only [e]; rfl
theorem rel_bin {T : aI} {q t tq dp k k1 k2 c a b : Nat} {mk fl fl1 fl2 : Bool} {F F1 F2 : aF} {flt : Option Nat} (h1 : rel T (c - 1) t dp k mk F fl a k1 none F1 fl1) (hk1 : k1 < T.1) (hc : cls (T.2 k1) = c) (hc2 : 2 ≤ c ∧ c ≤ 4) (ht : t = if c < 3 then c else 3) (h2 : rel T q tq dp (k1 + 1) mk F1 fl1 b k2 flt F2 fl2) (htq : tq < c) (hq : 1 ≤ q) (hq2 : c ≤ q + 1) (hq4 : c = 4 → q = 4) (hmk : mk = true → AF T true dp k (T.1 - k) = none) (hf2 : fOk F2) : rel T q t dp k mk F fl (mdP mk F2 fl2 c a b).1 k2 flt (mdP mk F2 fl2 c a b).2.1 (mdP mk F2 fl2 c a b).2.2 := by
  obtain ⟨a1, a2, a3, a4, a5⟩ := h1
  have e1 : T.1 - k1 = (T.1 - (k1 + 1)) + 1 := by omega
  have e2 : AF T false dp k1 (T.1 - k1) = AF T true dp (k1 + 1) (T.1 - (k1 + 1)) := by
    rw [e1]
    simp only [AF]
    rw [if_neg (by omega), if_pos (by omega)]
  cases flt with
  | some e =>
    have h2 : AF T true dp (k1 + 1) (T.1 - (k1 + 1)) = some e := h2
    show AF T true dp k (T.1 - k) = some e
    rw [a3, e2, h2]
  | none =>
    obtain ⟨b1, b2, b3, b4, b5⟩ := h2
    refine ⟨by omega, b2, by rw [a3, e2, b3], b4, fun hm => ?_⟩
    have a5 := a5 hm
    have b5 := b5 hm
    have hA : AF T false dp k2 (T.1 - k2) = none := by rw [← b3, ← e2, ← a3]; exact hmk hm
    have hL := AF_Lv (c := c) b2 hA b4 hq hq2 hc2.2 hq4
    unfold mdP
    rw [if_pos hm]
    refine ⟨fun h => ?_, fun h ops vals hops => ?_⟩
    · have := b5.1 (a5.1 h)
      subst this
      obtain ⟨j, e, -⟩ := aMm_full (F := F2) c a b
      rw [e]
    · rw [a5.2 h ops vals hops]
      cases fl1 with
      | true =>
        have := b5.1 rfl
        subst this
        obtain ⟨j, e, -⟩ := aMm_full (F := F2) c a b
        rw [e]
        rfl
      | false =>
        rw [if_neg (by decide), e1, BF_op hc hc2 (by rw [← ht]; exact hops), b5.2 rfl (c :: ops) (a :: vals) htq]
        cases fl2 with
        | true =>
          obtain ⟨j, e, -⟩ := aMm_full (F := F2) c a b
          rw [e]
          rfl
        | false =>
          rw [if_neg (by decide), BF_mk hf2 hc2 hL]
theorem rel_neg {T : aI} {dp k k2 a : Nat} {mk fl fl2 : Bool} {F F2 : aF} {flt : Option Nat} (hk : k < T.1) (hc : cls (T.2 k) = 1) (h2 : rel T 1 0 dp (k + 1) mk F fl a k2 flt F2 fl2) (hmk : mk = true → AF T true dp k (T.1 - k) = none) (hf2 : fOk F2) : rel T 1 0 dp k mk F fl (mdP mk F2 fl2 1 a 0).1 k2 flt (mdP mk F2 fl2 1 a 0).2.1 (mdP mk F2 fl2 1 a 0).2.2 := by
  have e1 : T.1 - k = (T.1 - (k + 1)) + 1 := by omega
  have e2 : AF T true dp k (T.1 - k) = AF T true dp (k + 1) (T.1 - (k + 1)) := by
    rw [e1]
    simp only [AF]
    rw [if_neg (by omega), if_neg (by omega), if_pos hc]
  cases flt with
  | some e =>
    have h2 : AF T true dp (k + 1) (T.1 - (k + 1)) = some e := h2
    show AF T true dp k (T.1 - k) = some e
    rw [e2, h2]
  | none =>
    obtain ⟨b1, b2, b3, b4, b5⟩ := h2
    refine ⟨by omega, b2, by rw [e2, b3], b4, fun hm => ?_⟩
    have b5 := b5 hm
    have hA : AF T false dp k2 (T.1 - k2) = none := by rw [← b3, ← e2]; exact hmk hm
    have hL := AF_Lv (c := 1) b2 hA b4 (by omega) (by omega) (by omega) (by omega)
    unfold mdP
    rw [if_pos hm]
    refine ⟨fun h => ?_, fun h ops vals hops => ?_⟩
    · have := b5.1 h
      subst this
      obtain ⟨j, e, -⟩ := aMm_full (F := F2) 1 a 0
      rw [e]
    · rw [e1, BF_neg hc, b5.2 h (1 :: ops) vals (show 0 < 1 by omega)]
      cases fl2 with
      | true =>
        obtain ⟨j, e, -⟩ := aMm_full (F := F2) 1 a 0
        rw [e]
        rfl
      | false =>
        rw [if_neg (by decide), BF_mk1 hf2 hL]
theorem rel_atom {T : aI} {dp k : Nat} {mk fl : Bool} {F : aF} (hk : k < T.1) (hc : cls (T.2 k) = 5) : rel T 1 0 dp k mk F fl (T.2 k - 112).toNatClampNeg (k + 1) none F fl := by
  have e1 : T.1 - k = (T.1 - (k + 1)) + 1 := by omega
  refine ⟨by omega, by omega, ?_, fun _ z => by omega, fun hm => ⟨fun h => h, fun h ops vals hops => ?_⟩⟩
  · rw [e1]
    simp only [AF]
    rw [if_neg (by omega), if_pos hc]
  · rw [e1, BF_atom hc, h]
    rfl
theorem rel_none {T : aI} {dp k k1 v : Nat} {mk fl fl1 : Bool} {F F1 : aF} (h : k < T.1 → cls (T.2 k) ≠ 5 ∧ cls (T.2 k) ≠ 1 ∧ cls (T.2 k) ≠ 6) : rel T 1 0 dp k mk F fl v k1 (some k) F1 fl1 := by
  show AF T true dp k (T.1 - k) = some k
  by_cases hk : k < T.1
  · obtain ⟨h5, h1, h6⟩ := h hk
    rw [show T.1 - k = (T.1 - (k + 1)) + 1 by omega]
    simp only [AF]
    rw [if_neg h6, if_neg h5, if_neg h1]
  · rw [show T.1 - k = 0 by omega]
    simp only [AF]
    rw [if_pos (Or.inl trivial)]
theorem AF_par {T : aI} {dp k : Nat} (hk : k < T.1) (hc : cls (T.2 k) = 6) : AF T true dp k (T.1 - k) = AF T true (dp + 1) (k + 1) (T.1 - (k + 1)) := by
  rw [show T.1 - k = (T.1 - (k + 1)) + 1 by omega]
  simp only [AF]
  rw [if_pos hc]
/-- parentheses: closed -/
theorem rel_par {T : aI} {dp k k2 v : Nat} {mk fl fl2 : Bool} {F F2 : aF} (hk : k < T.1) (hc : cls (T.2 k) = 6) (h2 : rel T 4 3 (dp + 1) (k + 1) mk F fl v k2 none F2 fl2) (hk2 : k2 < T.1) (hc2 : cls (T.2 k2) = 7) : rel T 1 0 dp k mk F fl v (k2 + 1) none F2 fl2 := by
  obtain ⟨b1, b2, b3, b4, b5⟩ := h2
  have e3 : T.1 - k2 = (T.1 - (k2 + 1)) + 1 := by omega
  refine ⟨by omega, by omega, ?_, fun _ z => by omega, fun hm => ⟨(b5 hm).1, fun h ops vals hops => ?_⟩⟩
  · rw [AF_par hk hc, b3, e3]
    simp only [AF]
    rw [if_pos ⟨hc2, by omega⟩]
    rfl
  · rw [show T.1 - k = (T.1 - (k + 1)) + 1 by omega, BF_par hc, (b5 hm).2 h (5 :: ops) vals (show 3 < 5 by omega), e3, BF_close hc2]
/-- parentheses: a fault inside, or none that closes -/
theorem rel_parF {T : aI} {dp k k2 v w k3 e : Nat} {mk fl fl2 fl3 : Bool} {F F2 F3 : aF} (hk : k < T.1) (hc : cls (T.2 k) = 6) (h2 : rel T 4 3 (dp + 1) (k + 1) mk F fl v k2 (some e) F2 fl2) : rel T 1 0 dp k mk F fl w k3 (some e) F3 fl3 := by
  have h2 : AF T true (dp + 1) (k + 1) (T.1 - (k + 1)) = some e := h2
  show AF T true dp k (T.1 - k) = some e
  rw [AF_par hk hc, h2]
theorem rel_parO {T : aI} {dp k k2 v w k3 : Nat} {mk fl fl2 fl3 : Bool} {F F2 F3 : aF} (hk : k < T.1) (hc : cls (T.2 k) = 6) (h2 : rel T 4 3 (dp + 1) (k + 1) mk F fl v k2 none F2 fl2) (hn : k2 < T.1 → cls (T.2 k2) ≠ 7) : rel T 1 0 dp k mk F fl w k3 (some k2) F3 fl3 := by
  obtain ⟨b1, b2, b3, b4, b5⟩ := h2
  show AF T true dp k (T.1 - k) = some k2
  rw [AF_par hk hc, b3]
  by_cases hk2 : k2 < T.1
  · rw [show T.1 - k2 = (T.1 - (k2 + 1)) + 1 by omega]
    simp only [AF]
    rw [if_neg (fun z => hn hk2 z.1), if_neg (b4 hk2)]
  · rw [show T.1 - k2 = 0 by omega]
    simp only [AF]
    rw [if_pos (Or.inr (by omega))]
theorem rel_up {T : aI} {p t t1 dp k v k1 : Nat} {mk fl fl1 : Bool} {F F1 : aF} {flt : Option Nat} (h : rel T p t dp k mk F fl v k1 flt F1 fl1) (ht : t ≤ t1) : rel T p t1 dp k mk F fl v k1 flt F1 fl1 := by
  cases flt with
  | some e => exact h
  | none =>
    obtain ⟨b1, b2, b3, b4, b5⟩ := h
    exact ⟨b1, b2, b3, b4, fun hm => ⟨(b5 hm).1, fun h ops vals hops => (b5 hm).2 h ops vals (tg_le hops ht)⟩⟩
/-- the next sign is none of the operators of the next level either -/
theorem rel_nx {T : aI} {p t dp k v k1 : Nat} {mk fl fl1 : Bool} {F F1 : aF} {flt : Option Nat} (h : rel T p t dp k mk F fl v k1 flt F1 fl1) (hn : flt = none → k1 < T.1 → cls (T.2 k1) ≠ p + 1) : rel T (p + 1) t dp k mk F fl v k1 flt F1 fl1 := by
  cases flt with
  | some e => exact h
  | none =>
    obtain ⟨b1, b2, b3, b4, b5⟩ := h
    refine ⟨b1, b2, b3, fun hk z => ?_, b5⟩
    have := b4 hk
    have := hn rfl hk
    omega
