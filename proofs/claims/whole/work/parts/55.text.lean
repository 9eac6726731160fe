/-! texts: the first fault; the formulas that a text makes, in their order -/
/-- what a sign is: 1 to 4 the operators' kinds, 5 an atom, 6 and 7 parentheses, 0 no sign -/
def cls (s : Int32) : Nat := if s = 40 then 6 else if s = 41 then 7 else if s = 126 then 1 else if s = 38 then 2 else if s = 124 then 3 else if s = 62 then 4 else if 112 ≤ s ∧ s ≤ 115 then 5 else 0
/-- the first fault from place k on, m signs left -/
def AF (T : aI) : Bool → Nat → Nat → Nat → Option Nat
  | w, dp, k, 0 => if w = true ∨ 0 < dp then some k else none
  | true, dp, k, m + 1 => if cls (T.2 k) = 6 then AF T true (dp + 1) (k + 1) m else if cls (T.2 k) = 5 then AF T false dp (k + 1) m else if cls (T.2 k) = 1 then AF T true dp (k + 1) m else some k
  | false, dp, k, m + 1 => if cls (T.2 k) = 7 ∧ 0 < dp then AF T false (dp - 1) (k + 1) m else if 2 ≤ cls (T.2 k) ∧ cls (T.2 k) ≤ 4 then AF T true dp (k + 1) m else some k
theorem cls_40 (s : Int32) : cls s = 6 ↔ s = 40 := by unfold cls; split; simp_all; (repeat (split; simp_all)); simp_all
theorem cls_le (s : Int32) : cls s ≤ 7 := by
  unfold cls
  (repeat' split) <;> omega
theorem cls_41 (s : Int32) : cls s = 7 ↔ s = 41 := by
  constructor
  · intro h
    unfold cls at h
    (repeat' split at h) <;> first | assumption | omega
  · rintro rfl; decide
theorem cls_op (s : Int32) : (cls s = 1 ↔ s = 126) ∧ (cls s = 2 ↔ s = 38) ∧ (cls s = 3 ↔ s = 124) ∧ (cls s = 4 ↔ s = 62) := by
  refine ⟨⟨fun h => ?_, fun h => by subst h; decide⟩, ⟨fun h => ?_, fun h => by subst h; decide⟩, ⟨fun h => ?_, fun h => by subst h; decide⟩, ⟨fun h => ?_, fun h => by subst h; decide⟩⟩ <;> (unfold cls at h; (repeat' split at h) <;> first | assumption | omega)
theorem cls_at (s : Int32) : cls s = 5 ↔ 112 ≤ s ∧ s ≤ 115 := by
  constructor
  · intro h
    unfold cls at h
    (repeat' split at h) <;> first | assumption | omega
  · rintro ⟨h1, h2⟩
    have n : ∀ c : Int32, ¬ (112 ≤ c ∧ c ≤ 115) → s ≠ c := fun c hc e => hc (e ▸ ⟨h1, h2⟩)
    unfold cls
    rw [if_neg (n 40 (by decide)), if_neg (n 41 (by decide)), if_neg (n 126 (by decide)), if_neg (n 38 (by decide)), if_neg (n 124 (by decide)), if_neg (n 62 (by decide)), if_pos ⟨h1, h2⟩]
theorem AF_le {T : aI} : ∀ (m : Nat) (w : Bool) (dp k : Nat) {f : Nat}, AF T w dp k m = some f → k ≤ f ∧ f ≤ k + m := by
  intro m
  induction m with
  | zero =>
    intro w dp k f h
    simp only [AF] at h
    split at h
    · cases h; omega
    · cases h
  | succ m ih =>
    intro w dp k f h
    cases w with
    | true =>
      simp only [AF] at h
      split at h
      · have := ih _ _ _ h; omega
      · split at h
        · have := ih _ _ _ h; omega
        · split at h
          · have := ih _ _ _ h; omega
          · cases h; omega
    | false =>
      simp only [AF] at h
      split at h
      · have := ih _ _ _ h; omega
      · split at h
        · have := ih _ _ _ h; omega
        · cases h; omega
section J
/-- a formula is made, or there is no room -/
def mkS (F : aF) (c a b : Nat) : Option (Nat × aF) := match (aMk F c a b).1 with
  | none => none
  | some v => some (v, (aMk F c a b).2)
/-- an operator is joined with its operands -/
def jn (c : Nat) (vals : List Nat) (F : aF) : Option (List Nat × aF) := if c = 1 then (match vals with
    | a :: t => (match mkS F 1 a 0 with
      | none => none
      | some (v, F1) => some (v :: t, F1))
    | [] => some ([], F))
  else (match vals with
    | b :: a :: t => (match mkS F c a b with
      | none => none
      | some (v, F1) => some (v :: t, F1))
    | x => some (x, F))
def JU (L : Nat) : List Nat → List Nat → aF → Option (List Nat × List Nat × aF)
  | [], vals, F => some ([], vals, F)
  | c :: ops, vals, F => if c ≤ L then (match jn c vals F with
      | none => none
      | some (v1, F1) => JU L ops v1 F1)
    else some (c :: ops, vals, F)
/-- a sign is taken -/
def TK (s : Int32) (ops vals : List Nat) (F : aF) : Option (List Nat × List Nat × aF) :=
  if cls s = 5 then some (ops, (s - 112).toNatClampNeg :: vals, F)
  else if cls s = 6 then some (5 :: ops, vals, F)
  else if cls s = 7 then (match JU 4 ops vals F with
    | none => none
    | some (o, v, F1) => some (o.tail, v, F1))
  else if cls s = 1 then some (1 :: ops, vals, F)
  else (match JU (if cls s < 3 then cls s else 3) ops vals F with
    | none => none
    | some (o, v, F1) => some (cls s :: o, v, F1))
def BF (T : aI) : Nat → Nat → List Nat → List Nat → aF → Option (List Nat × List Nat × aF)
  | _, 0, ops, vals, F => JU 4 ops vals F
  | k, m + 1, ops, vals, F => match TK (T.2 k) ops vals F with
    | none => none
    | some (o, v, F1) => BF T (k + 1) m o v F1
end J
def tg (p : Nat) : List Nat → Prop
  | [] => True
  | c :: _ => p < c
theorem JU_tg {L : Nat} {ops vals : List Nat} {F : aF} (h : tg L ops) : JU L ops vals F = some (ops, vals, F) := by
  cases ops with
  | nil => rfl
  | cons c t => simp only [JU]; rw [if_neg (by have : L < c := h; omega)]
/-- what the next sign joins: at the end and at a closing parenthesis all -/
def Lv (T : aI) (k m : Nat) : Nat := if m = 0 then 4 else if cls (T.2 k) = 7 then 4 else if 2 ≤ cls (T.2 k) ∧ cls (T.2 k) ≤ 4 then (if cls (T.2 k) < 3 then cls (T.2 k) else 3) else 0
theorem BF_join {T : aI} {k m c : Nat} {ops vals : List Nat} {F : aF} (h1 : 1 ≤ c) (h : c ≤ Lv T k m) : BF T k m (c :: ops) vals F = (match jn c vals F with
    | none => none
    | some (v1, F1) => BF T k m ops v1 F1) := by
  cases m with
  | zero =>
    simp only [Lv, if_true] at h
    simp only [BF, JU]
    rw [if_pos h]
  | succ m =>
    simp only [Lv] at h
    rw [if_neg (by omega)] at h
    simp only [BF, TK]
    by_cases h7 : cls (T.2 k) = 7
    · rw [if_pos h7] at h
      have n5 : ¬ cls (T.2 k) = 5 := by omega
      have n6 : ¬ cls (T.2 k) = 6 := by omega
      simp only [if_neg n5, if_neg n6, if_pos h7]
      simp only [JU]
      rw [if_pos h]
      cases jn c vals F with
      | none => rfl
      | some x => rfl
    · rw [if_neg h7] at h
      by_cases h2 : 2 ≤ cls (T.2 k) ∧ cls (T.2 k) ≤ 4
      · rw [if_pos h2] at h
        have n5 : ¬ cls (T.2 k) = 5 := by omega
        have n6 : ¬ cls (T.2 k) = 6 := by omega
        have n1 : ¬ cls (T.2 k) = 1 := by omega
        simp only [if_neg n5, if_neg n6, if_neg h7, if_neg n1]
        simp only [JU]
        rw [if_pos h]
        cases jn c vals F with
        | none => rfl
        | some x => rfl
      · rw [if_neg h2] at h; omega
theorem BF_op {T : aI} {k m c : Nat} {ops vals : List Nat} {F : aF} (h : cls (T.2 k) = c) (h2 : 2 ≤ c ∧ c ≤ 4) (ht : tg (if c < 3 then c else 3) ops) : BF T k (m + 1) ops vals F = BF T (k + 1) m (c :: ops) vals F := by
  subst h
  simp only [BF, TK]
  have n5 : ¬ cls (T.2 k) = 5 := by omega
  have n6 : ¬ cls (T.2 k) = 6 := by omega
  have n1 : ¬ cls (T.2 k) = 1 := by omega
  have n7 : ¬ cls (T.2 k) = 7 := by omega
  simp only [if_neg n5, if_neg n6, if_neg n7, if_neg n1]
  rw [JU_tg ht]
theorem BF_neg {T : aI} {k m : Nat} {ops vals : List Nat} {F : aF} (h : cls (T.2 k) = 1) : BF T k (m + 1) ops vals F = BF T (k + 1) m (1 :: ops) vals F := by
  simp only [BF, TK, h]
  rfl
theorem BF_par {T : aI} {k m : Nat} {ops vals : List Nat} {F : aF} (h : cls (T.2 k) = 6) : BF T k (m + 1) ops vals F = BF T (k + 1) m (5 :: ops) vals F := by
  simp only [BF, TK, h]
  rfl
theorem BF_atom {T : aI} {k m : Nat} {ops vals : List Nat} {F : aF} (h : cls (T.2 k) = 5) : BF T k (m + 1) ops vals F = BF T (k + 1) m ops ((T.2 k - 112).toNatClampNeg :: vals) F := by
  simp only [BF, TK, h]
  rfl
theorem BF_close {T : aI} {k m : Nat} {ops vals : List Nat} {F : aF} (h : cls (T.2 k) = 7) : BF T k (m + 1) (5 :: ops) vals F = BF T (k + 1) m ops vals F := by
  simp only [BF, TK, h]
  rw [JU_tg (show tg 4 (5 :: ops) from (by decide : 4 < 5))]
  rfl
section T
variable {g : mG} {l : Launch} {d : Nat} {lk : Nat} {ex : mSh} {σ : mHp} {T : aI}
theorem c_signAt (hT : T.1 ≤ 40) (hc : cI σ T) {k : Nat} (hk : k < T.1) : mNP g l d 31 [.ref 8, .int (nI k)] lk ex σ (.int (T.2 k)) := by
  have ok : mOkP md_X3_signAt := ok_at 31 (by decide) rfl
  refine mC_of (md := md_X3_signAt) rfl (lt_at (by decide)) rfl ?_
  refine mGo_run (n := 400) ok rfl ?_
  refine mGo_if ok rfl (fun h => ?_) (fun h => ?_)
  · exact absurd h (nI_pos (by omega))
  · refine mGo_run (n := 400) ok rfl ?_
    rw [hc.1]
    refine mGo_ifI ok rfl (nI_leI (a := T.1) (b := k) (by omega) (by omega)) (fun h1 => ?_) (fun h1 => ?_)
    · omega
    · refine mGo_run (n := 400) ok rfl ?_
      refine mGo_side ok rfl (nI_in (by omega) (by omega)) ?_
      rw [nI_clamp (n := k) (by omega), hc.2 k hk]
      refine mGo_run (n := 400) ok rfl ?_
      exact mGo_ret ok rfl trivial (⟨rfl, rfl, rfl⟩)
theorem c_isAtomSign (s : Int32) : mNP g l d 67 [.int s] lk ex σ (.int (if cls s = 5 then 1 else 0)) := by
  have ok : mOkP md_X6_isAtomSign := ok_at 67 (by decide) rfl
  refine mC_of (md := md_X6_isAtomSign) rfl (lt_at (by decide)) rfl ?_
  refine mGo_run (n := 400) ok rfl ?_
  refine mGo_if ok rfl (fun h => ?_) (fun h => ?_)
  · refine mGo_run (n := 400) ok rfl ?_
    exact mGo_ret ok rfl (Or.inl rfl) (⟨by rw [if_neg (fun z => absurd ((cls_at s).mp z).1 (Int32.not_le.mpr h))], rfl, rfl⟩)
  · refine mGo_run (n := 400) ok rfl ?_
    refine mGo_if ok rfl (fun h1 => ?_) (fun h1 => ?_)
    · refine mGo_run (n := 400) ok rfl ?_
      exact mGo_ret ok rfl (Or.inl rfl) (⟨by rw [if_neg (fun z => absurd ((cls_at s).mp z).2 (Int32.not_le.mpr h1))], rfl, rfl⟩)
    · refine mGo_run (n := 400) ok rfl ?_
      exact mGo_ret ok rfl (Or.inr rfl) (⟨by rw [if_pos ((cls_at s).mpr ⟨Int32.not_lt.mp h, Int32.not_lt.mp h1⟩)], rfl, rfl⟩)
theorem c_kindOfOperator (s : Int32) : mNP g l d 68 [.int s] lk ex σ (.int (nI (if cls s ≤ 4 then cls s else 0))) := by
  obtain ⟨k1, k2, k3, k4⟩ := cls_op s
  have ok : mOkP md_X6_kindOfOperator := ok_at 68 (by decide) rfl
  refine mC_of (md := md_X6_kindOfOperator) rfl (lt_at (by decide)) rfl ?_
  refine mGo_run (n := 400) ok rfl ?_
  refine mGo_sw ok rfl ⟨fun h2 => ?_, fun h2 => ⟨fun h3 => ?_, fun h3 => ⟨fun h4 => ?_, fun h4 => ⟨fun h5 => ?_, fun h5 => ?_⟩⟩⟩⟩
  · have e := k2.mpr h2
    refine mGo_run (n := 400) ok rfl ?_
    exact mGo_ret ok rfl trivial (⟨by rw [e]; rfl, rfl, rfl⟩)
  · have e := k4.mpr h3
    refine mGo_run (n := 400) ok rfl ?_
    exact mGo_ret ok rfl trivial (⟨by rw [e]; rfl, rfl, rfl⟩)
  · have e := k3.mpr h4
    refine mGo_run (n := 400) ok rfl ?_
    exact mGo_ret ok rfl trivial (⟨by rw [e]; rfl, rfl, rfl⟩)
  · have e := k1.mpr h5
    refine mGo_run (n := 400) ok rfl ?_
    exact mGo_ret ok rfl trivial (⟨by rw [e]; rfl, rfl, rfl⟩)
  · have n1 : cls s ≠ 1 := fun z => h5 (k1.mp z)
    have n2 : cls s ≠ 2 := fun z => h2 (k2.mp z)
    have n3 : cls s ≠ 3 := fun z => h4 (k3.mp z)
    have n4 : cls s ≠ 4 := fun z => h3 (k4.mp z)
    have e0 : (if cls s ≤ 4 then cls s else 0) = 0 := by split <;> omega
    refine mGo_run (n := 400) ok rfl ?_
    exact mGo_ret ok rfl trivial (⟨by rw [e0]; rfl, rfl, rfl⟩)
def oF (o : Option Nat) : Int32 := match o with
  | none => -1
  | some f => nI f
set_option maxHeartbeats 1000000 in
theorem c_faultIn (hT : T.1 ≤ 40) (hc : cI σ T) : mNP g l (d + 1) 60 [.ref 10, .ref 8] lk ex σ (.int (oF (AF T true 0 0 T.1))) := by
  have ok : mOkP md_X6_faultIn := ok_at 60 (by decide) rfl
  refine mC_of (md := md_X6_faultIn) rfl (lt_at (by decide)) rfl ?_
  refine mGo_runS 7 (n := 400) ok rfl ?_
  have loop : ∀ m k, k + m = T.1 → ∀ (w : Bool) (dp : Nat) (L5 : Option Value), dp ≤ k → mGo g l (d + 1) md_X6_faultIn (SH lk ex).length (mTot (SH lk ex)) (7, [some (.ref 10), some (.ref 8), some (.int (bI w)), some (.int (nI dp)), some (.int (nI k)), L5], [], SH lk ex, σ) (fun r sp σ1 => r = some (.int (oF (AF T w dp k m))) ∧ sp = SH lk ex ∧ σ1 = σ) := by
    intro m
    induction m with
    | zero =>
      intro k hk w dp L5 hdp
      refine mGo_run (n := 400) ok rfl ?_
      rw [hc.1]
      refine mGo_ifI ok rfl (nI_leI (a := T.1) (b := k) (by omega) (by omega)) (fun h => ?_) (fun h => ?_)
      · have e : T.1 = k := by omega
        refine mGo_run (n := 400) ok rfl ?_
        refine mGo_ifI ok rfl (bI_0) (fun h1 => ?_) (fun h1 => ?_)
        · refine mGo_run (n := 400) ok rfl ?_
          refine mGo_ifI ok rfl (nI_leI (a := dp) (b := 0) (by omega) (by omega)) (fun h2 => ?_) (fun h2 => ?_)
          · refine mGo_run (n := 400) ok rfl ?_
            exact mGo_ret ok rfl trivial (⟨by simp only [AF]; rw [if_neg (by rw [h1]; simp; omega)]; rfl, rfl, rfl⟩)
          · refine mGo_run (n := 400) ok rfl ?_
            rw [hc.1]
            exact mGo_ret ok rfl trivial (⟨by simp only [AF]; rw [if_pos (Or.inr (by omega)), e]; rfl, rfl, rfl⟩)
        · refine mGo_run (n := 400) ok rfl ?_
          rw [hc.1]
          exact mGo_ret ok rfl trivial (⟨by simp only [AF]; rw [if_pos (Or.inl (by simpa using h1)), e]; rfl, rfl, rfl⟩)
      · omega
    | succ m ih =>
      intro k hk w dp L5 hdp
      have next : ∀ (w : Bool) (dp : Nat) (L5 : Option Value), dp ≤ k + 1 → mGo g l (d + 1) md_X6_faultIn (SH lk ex).length (mTot (SH lk ex)) (98, [some (.ref 10), some (.ref 8), some (.int (bI w)), some (.int (nI dp)), some (.int (nI k)), L5], [], SH lk ex, σ) (fun r sp σ1 => r = some (.int (oF (AF T w dp (k + 1) m))) ∧ sp = SH lk ex ∧ σ1 = σ) := by
        intro w dp L5 h
        refine mGo_runS 7 (n := 400) ok rfl ?_
        rw [nI_1]
        exact ih (k + 1) (by omega) w dp L5 h
      refine mGo_run (n := 400) ok rfl ?_
      rw [hc.1]
      refine mGo_ifI ok rfl (nI_leI (a := T.1) (b := k) (by omega) (by omega)) (fun h => ?_) (fun h => ?_)
      · omega
      · refine mGo_run (n := 400) ok rfl ?_
        refine mGo_callP ok rfl (by omega) (c_signAt (d := d) hT hc (k := k) (by omega)) ?_
        refine mGo_run (n := 400) ok rfl ?_
        refine mGo_ifI ok rfl (bI_0) (fun h1 => ?_) (fun h1 => ?_)
        · subst h1
          have tail : ¬ (cls (T.2 k) = 7 ∧ 0 < dp) → mGo g l (d + 1) md_X6_faultIn (SH lk ex).length (mTot (SH lk ex)) (81, [some (.ref 10), some (.ref 8), some (.int (bI false)), some (.int (nI dp)), some (.int (nI k)), some (.int (T.2 k))], [], SH lk ex, σ) (fun r sp σ1 => r = some (.int (oF (AF T false dp k (m + 1)))) ∧ sp = SH lk ex ∧ σ1 = σ) := by
            intro hno
            have hcl : (if cls (T.2 k) ≤ 4 then cls (T.2 k) else 0) ≤ 4 := by split <;> omega
            refine mGo_run (n := 400) ok rfl ?_
            refine mGo_callP ok rfl (by omega) (c_kindOfOperator (d := d) (T.2 k)) ?_
            refine mGo_run (n := 400) ok rfl ?_
            refine mGo_ifI ok rfl (nI_ltI (a := (if cls (T.2 k) ≤ 4 then cls (T.2 k) else 0)) (b := 2) (by omega) (by omega)) (fun h2 => ?_) (fun h2 => ?_)
            · refine mGo_run (n := 400) ok rfl ?_
              exact mGo_ret ok rfl trivial (⟨by simp only [AF]; rw [if_neg hno, if_neg (fun z => by rw [if_pos z.2] at h2; omega)]; rfl, rfl, rfl⟩)
            · have h3 : 2 ≤ cls (T.2 k) ∧ cls (T.2 k) ≤ 4 := by
                by_cases z : cls (T.2 k) ≤ 4
                · rw [if_pos z] at h2; exact ⟨by omega, z⟩
                · rw [if_neg z] at h2; omega
              rw [show AF T false dp k (m + 1) = AF T true dp (k + 1) m by simp only [AF]; rw [if_neg hno, if_pos h3]]
              refine mGo_runS 98 (n := 400) ok rfl ?_
              exact next true dp _ (by omega)
          refine mGo_run (n := 400) ok rfl ?_
          refine mGo_if ok rfl (fun h2 => ?_) (fun h2 => ?_)
          · have c7 := (cls_41 _).mpr h2
            refine mGo_run (n := 400) ok rfl ?_
            refine mGo_ifI ok rfl (nI_leI (a := dp) (b := 0) (by omega) (by omega)) (fun h3 => ?_) (fun h3 => ?_)
            · exact tail (fun z => by omega)
            · rw [show AF T false dp k (m + 1) = AF T false (dp - 1) (k + 1) m by simp only [AF]; rw [if_pos ⟨c7, by omega⟩]]
              refine mGo_runS 98 (n := 400) ok rfl ?_
              rw [show nI dp + (-1) = nI (dp - 1) by have := pk_m1 (dp - 1); rw [show dp - 1 + 1 = dp by omega] at this; exact this]
              exact next false (dp - 1) _ (by omega)
          · exact tail (fun z => h2 ((cls_41 _).mp z.1))
        · have ew : w = true := by simpa using h1
          subst ew
          refine mGo_run (n := 400) ok rfl ?_
          refine mGo_if ok rfl (fun h2 => ?_) (fun h2 => ?_)
          · have c6 := (cls_40 _).mpr h2
            rw [show AF T true dp k (m + 1) = AF T true (dp + 1) (k + 1) m by simp only [AF]; rw [if_pos c6]]
            refine mGo_runS 98 (n := 400) ok rfl ?_
            rw [nI_1]
            exact next true (dp + 1) _ (by omega)
          · have c6 : ¬ cls (T.2 k) = 6 := fun z => h2 ((cls_40 _).mp z)
            refine mGo_run (n := 400) ok rfl ?_
            refine mGo_callP ok rfl (by omega) (c_isAtomSign (d := d) (T.2 k)) ?_
            by_cases c5 : cls (T.2 k) = 5
            · rw [if_pos c5]
              refine mGo_if ok rfl (fun h3 => ?_) (fun h3 => ?_)
              · exact absurd h3 (by decide)
              · rw [show AF T true dp k (m + 1) = AF T false dp (k + 1) m by simp only [AF]; rw [if_neg c6, if_pos c5]]
                refine mGo_runS 98 (n := 400) ok rfl ?_
                exact next false dp _ (by omega)
            · rw [if_neg c5]
              refine mGo_if ok rfl (fun h3 => ?_) (fun h3 => ?_)
              · refine mGo_run (n := 400) ok rfl ?_
                refine mGo_if ok rfl (fun h4 => ?_) (fun h4 => ?_)
                · have c1 := (cls_op _).1.mpr h4
                  rw [show AF T true dp k (m + 1) = AF T true dp (k + 1) m by simp only [AF]; rw [if_neg c6, if_neg c5, if_pos c1]]
                  exact next true dp _ (by omega)
                · have c1 : ¬ cls (T.2 k) = 1 := fun z => h4 ((cls_op _).1.mp z)
                  refine mGo_run (n := 400) ok rfl ?_
                  exact mGo_ret ok rfl trivial (⟨by simp only [AF]; rw [if_neg c6, if_neg c5, if_neg c1]; rfl, rfl, rfl⟩)
              · exact absurd rfl h3
  exact loop T.1 0 (by omega) true 0 none (by omega)
end T
