/-! constructors -/
def fNw (n : Nat) (σ σ1 : mHp) : Prop := ∀ i, i < n → sm3 σ σ1 i
theorem fNw.refl {n : Nat} {σ : mHp} : fNw n σ σ := fun _ _ => ⟨rfl, rfl, rfl⟩
theorem fNw.trans {n : Nat} {σ σ1 σ2 : mHp} (h1 : fNw n σ σ1) (h2 : fNw n σ1 σ2) : fNw n σ σ2 := fun i hi => (h1 i hi).trans (h2 i hi)
theorem fNw.le {n m : Nat} {σ σ1 : mHp} (h : fNw n σ σ1) (hm : m ≤ n) : fNw m σ σ1 := fun i hi => h i (by omega)
theorem fNw.new {n i : Nat} {σ σ1 : mHp} (h : fNw n σ σ1) (hi : n ≤ i) : fNw n σ (mNew σ1 i) := fun j hj => by
  obtain ⟨a, b, c⟩ := h j hj
  exact ⟨by rw [← a]; exact if_neg (by omega), by rw [← b]; exact if_neg (by omega), by rw [← c]; exact if_neg (by omega)⟩
theorem fNw.WI {n i k : Nat} {v : Int32} {σ σ1 : mHp} (h : fNw n σ σ1) (hi : n ≤ i) : fNw n σ (mWI σ1 i k v) := fun j hj => by
  obtain ⟨a, b, c⟩ := h j hj
  exact ⟨by rw [← a]; exact if_neg (by omega), b, c⟩
theorem fNw.WL {n i k : Nat} {v : Int64} {σ σ1 : mHp} (h : fNw n σ σ1) (hi : n ≤ i) : fNw n σ (mWL σ1 i k v) := fun j hj => by
  obtain ⟨a, b, c⟩ := h j hj
  exact ⟨a, by rw [← b]; exact if_neg (by omega), c⟩
/-- an empty cell -/
def zI (σ : mHp) (i : Nat) : Prop := ∀ k, σ.1 i k = 0
theorem zI_new (σ : mHp) (i : Nat) : zI (mNew σ i) i := fun k => by
  show (if i = i then fun _ => (0 : Int32) else σ.1 i) k = 0
  rw [if_pos rfl]
theorem zI_fr {n i : Nat} {σ σ1 : mHp} (h : fNw n σ σ1) (hi : i < n) (hz : zI σ i) : zI σ1 i := fun k => by rw [(h i hi).1]; exact hz k
theorem ob_0 : Cond.methodLink (mCn md_X0_init.2.1) 5 Lib.objectInit ∈ mTB := List.mem_filter.mpr (by decide +kernel)
theorem ob_1 : Cond.methodLink (mCn md_X1_init.2.1) 3 Lib.objectInit ∈ mTB := List.mem_filter.mpr (by decide +kernel)
theorem ob_2 : Cond.methodLink (mCn md_X2_init.2.1) 3 Lib.objectInit ∈ mTB := List.mem_filter.mpr (by decide +kernel)
theorem ob_3 : Cond.methodLink (mCn md_X3_init.2.1) 1 Lib.objectInit ∈ mTB := List.mem_filter.mpr (by decide +kernel)
theorem ob_4 : Cond.methodLink (mCn md_X4_init.2.1) 1 Lib.objectInit ∈ mTB := List.mem_filter.mpr (by decide +kernel)
theorem ob_5 : Cond.methodLink (mCn md_X5_init.2.1) 1 Lib.objectInit ∈ mTB := List.mem_filter.mpr (by decide +kernel)
theorem ob_6 : Cond.methodLink (mCn md_X6_init.2.1) 3 Lib.objectInit ∈ mTB := List.mem_filter.mpr (by decide +kernel)
theorem ob_7 : Cond.methodLink (mCn md_X7_init.2.1) 3 Lib.objectInit ∈ mTB := List.mem_filter.mpr (by decide +kernel)
theorem ob_8 : Cond.methodLink (mCn md_X8_init.2.1) 3 Lib.objectInit ∈ mTB := List.mem_filter.mpr (by decide +kernel)
theorem ob_9 : Cond.methodLink (mCn md_X9_init.2.1) 3 Lib.objectInit ∈ mTB := List.mem_filter.mpr (by decide +kernel)
section T
variable {g : mG} {l : Launch} {d : Nat} {σ : mHp}
def Fz : aF := (4, fun _ => 0, fun _ => 0, fun _ => 0)
theorem Fz_ok : fOk Fz := ⟨by decide, by decide, fun j hj => ⟨⟨fun _ => hj, fun _ => rfl⟩, by show 0 ≤ 4; omega, fun h => absurd rfl h, fun h => by have h : 2 ≤ 0 := h; omega, fun _ => rfl, fun _ => rfl⟩⟩
/-- the walk of atomTable, for one atom -/
def atSt (a : Int32) : Nat → Int32
  | 0 => 0
  | m + 1 => atSt a m ||| ((nI m >>> (a &&& 31) &&& 1) <<< (nI m &&& 31))
theorem atSt_T : ∀ j, j < 4 → atSt (nI j) 16 = atT j := by decide +kernel
theorem c_atomTable (a : Int32) (sp : mSh) : mC g l d 18 [.int a] sp σ (fun r sp1 σ1 => r = some (.int (atSt a 16)) ∧ sp1 = sp ∧ σ1 = σ) := by
  have ok : mOkP md_X2_atomTable := ok_at 18 (by decide) rfl
  refine mC_of (md := md_X2_atomTable) rfl (lt_at (by decide)) rfl ?_
  refine mGo_runS 4 (n := 400) ok rfl ?_
  have loop : ∀ m i, i + m = 16 → mGo g l d md_X2_atomTable sp.length (mTot sp) (4, [some (.int a), some (.int (atSt a i)), some (.int (nI i))], [], sp, σ) (fun r sp1 σ1 => r = some (.int (atSt a 16)) ∧ sp1 = sp ∧ σ1 = σ) := by
    intro m
    induction m with
    | zero =>
      intro i hi
      have e : i = 16 := by omega
      subst e
      refine mGo_run (n := 400) ok rfl ?_
      refine mGo_ifI ok rfl (nI_leI (a := 16) (b := 16) (by omega) (by omega)) (fun h => ?_) (fun h => ?_)
      · refine mGo_run (n := 400) ok rfl ?_
        exact mGo_ret ok rfl trivial (⟨rfl, rfl, rfl⟩)
      · omega
    | succ m ih =>
      intro i hi
      refine mGo_run (n := 400) ok rfl ?_
      refine mGo_ifI ok rfl (nI_leI (a := 16) (b := i) (by omega) (by omega)) (fun h => ?_) (fun h => ?_)
      · omega
      · refine mGo_runS 4 (n := 400) ok rfl ?_
        rw [nI_1]
        exact ih (i + 1) (by omega)
  exact loop 16 0 (by omega)
theorem c_initF (hz : zI σ 1) : mC g l (d + 1) 17 [.ref 1] [(8, 7, [none, none, none, none, none, none, none]), (2, 7, [none, none, none, none, none, none, none])] σ (fun r sp σ1 => r = none ∧ sp = [(8, 7, [none, none, none, none, none, none, none]), (2, 7, [some 2, some 3, some 4, some 5, some 6, some 7, none]), (100, 40, []), (100, 40, []), (100, 40, []), (100, 40, []), (100, 40, []), (101, 40, [])] ∧ (fNw 1 σ σ1 ∧ cF σ1 Fz ∧ cS σ1 Fz)) := by
  have ok : mOkP md_X2_init := ok_at 17 (by decide) rfl
  refine mC_of (md := md_X2_init) rfl (lt_at (by decide)) rfl ?_
  refine mGo_run (n := 400) ok rfl ?_
  refine mGo_obj ok rfl ob_2 (by omega) ?_
  refine mGo_run (n := 400) ok rfl ?_
  refine mGo_newa (i := 2) (N := 40) ok rfl rfl (Nat.le_of_ble_eq_true rfl) rfl (Nat.le_of_ble_eq_true rfl) (Nat.le_of_ble_eq_true rfl) (Nat.le_of_ble_eq_true rfl) rfl ?_
  refine mGo_run (n := 400) ok rfl ?_
  refine mGo_newa (i := 3) (N := 40) ok rfl rfl (Nat.le_of_ble_eq_true rfl) rfl (Nat.le_of_ble_eq_true rfl) (Nat.le_of_ble_eq_true rfl) (Nat.le_of_ble_eq_true rfl) rfl ?_
  refine mGo_run (n := 400) ok rfl ?_
  refine mGo_newa (i := 4) (N := 40) ok rfl rfl (Nat.le_of_ble_eq_true rfl) rfl (Nat.le_of_ble_eq_true rfl) (Nat.le_of_ble_eq_true rfl) (Nat.le_of_ble_eq_true rfl) rfl ?_
  refine mGo_run (n := 400) ok rfl ?_
  refine mGo_newa (i := 5) (N := 40) ok rfl rfl (Nat.le_of_ble_eq_true rfl) rfl (Nat.le_of_ble_eq_true rfl) (Nat.le_of_ble_eq_true rfl) (Nat.le_of_ble_eq_true rfl) rfl ?_
  refine mGo_run (n := 400) ok rfl ?_
  refine mGo_newa (i := 6) (N := 40) ok rfl rfl (Nat.le_of_ble_eq_true rfl) rfl (Nat.le_of_ble_eq_true rfl) (Nat.le_of_ble_eq_true rfl) (Nat.le_of_ble_eq_true rfl) rfl ?_
  refine mGo_run (n := 400) ok rfl ?_
  refine mGo_newa (i := 7) (N := 40) ok rfl rfl (Nat.le_of_ble_eq_true rfl) rfl (Nat.le_of_ble_eq_true rfl) (Nat.le_of_ble_eq_true rfl) (Nat.le_of_ble_eq_true rfl) rfl ?_
  refine mGo_runS 54 (n := 400) ok rfl ?_
  have loop : ∀ m i, i + m = 4 → ∀ τ : mHp, fNw 1 σ τ → zI τ 1 → (∀ j, j < i → τ.1 2 j = 0 ∧ τ.1 3 j = -1 ∧ τ.1 4 j = -1 ∧ τ.1 5 j = 1 ∧ τ.1 6 j = atT j ∧ τ.2.1 7 j = bit j) → mGo g l (d + 1) md_X2_init 2 14 (54, [some (.ref 1), some (.int (nI i))], [], [(8, 7, [none, none, none, none, none, none, none]), (2, 7, [some 2, some 3, some 4, some 5, some 6, some 7, none]), (100, 40, []), (100, 40, []), (100, 40, []), (100, 40, []), (100, 40, []), (101, 40, [])], τ) (fun r sp σ1 => r = none ∧ sp = [(8, 7, [none, none, none, none, none, none, none]), (2, 7, [some 2, some 3, some 4, some 5, some 6, some 7, none]), (100, 40, []), (100, 40, []), (100, 40, []), (100, 40, []), (100, 40, []), (101, 40, [])] ∧ (fNw 1 σ σ1 ∧ cF σ1 Fz ∧ cS σ1 Fz)) := by
    intro m
    induction m with
    | zero =>
      intro i hi τ t1 t2 t3
      have e : i = 4 := by omega
      subst e
      refine mGo_run (n := 400) ok rfl ?_
      refine mGo_ifI ok rfl (nI_leI (a := 4) (b := 4) (by omega) (by omega)) (fun h => ?_) (fun h => ?_)
      · refine mGo_run (n := 400) ok rfl ?_
        refine mGo_ret ok rfl trivial ⟨rfl, rfl, t1.WI (by omega), ⟨by rw [WI_at, if_pos ⟨rfl, rfl⟩]; rfl, fun j hj => ?_⟩, fun j hj => ?_⟩
        · obtain ⟨a1, a2, a3, a4, a5, a6⟩ := t3 j hj
          refine ⟨?_, ?_, ?_⟩
          · rw [WI_at, if_neg (by omega), a1]; rfl
          · rw [WI_at, if_neg (by omega), a2]; rfl
          · rw [WI_at, if_neg (by omega), a3]; rfl
        · obtain ⟨a1, a2, a3, a4, a5, a6⟩ := t3 j hj
          refine ⟨?_, ?_, ?_⟩
          · rw [WI_at, if_neg (by omega), a4]; rfl
          · rw [WI_at, if_neg (by omega), a5]; rfl
          · show τ.2.1 7 j = _
            rw [a6]; rfl
      · omega
    | succ m ih =>
      intro i hi τ t1 t2 t3
      refine mGo_run (n := 400) ok rfl ?_
      refine mGo_ifI ok rfl (nI_leI (a := 4) (b := i) (by omega) (by omega)) (fun h => ?_) (fun h => ?_)
      · omega
      · refine mGo_run (n := 400) ok rfl ?_
        refine mGo_side ok rfl (nI_in (by omega) (by omega)) ?_
        rw [nI_clamp (by omega)]
        refine mGo_run (n := 400) ok rfl ?_
        refine mGo_side ok rfl (nI_in (by omega) (by omega)) ?_
        rw [nI_clamp (by omega)]
        refine mGo_run (n := 400) ok rfl ?_
        refine mGo_side ok rfl (nI_in (by omega) (by omega)) ?_
        rw [nI_clamp (by omega)]
        refine mGo_run (n := 400) ok rfl ?_
        refine mGo_side ok rfl (nI_in (by omega) (by omega)) ?_
        rw [nI_clamp (by omega)]
        refine mGo_run (n := 400) ok rfl ?_
        refine mGo_call ok rfl (by omega) (c_atomTable (d := d) (nI i) _) (fun r sp τ2 hq => ?_)
        obtain ⟨rfl, rfl, rfl⟩ := hq
        rw [atSt_T i (by omega)]
        refine mGo_side ok rfl (nI_in (by omega) (by omega)) ?_
        rw [nI_clamp (by omega)]
        refine mGo_run (n := 400) ok rfl ?_
        refine mGo_side ok rfl (nI_in (by omega) (by omega)) ?_
        rw [nI_clamp (by omega)]
        refine mGo_runS 54 (n := 400) ok rfl ?_
        rw [nI_1]
        refine ih (i + 1) (by omega) _ ((((((t1.WI (by omega)).WI (by omega)).WI (by omega)).WI (by omega)).WI (by omega)).WL (by omega)) (fun q => ?_) (fun j hj => ?_)
        · show (mWI (mWI (mWI (mWI (mWI τ 2 i 0) 3 i (-1)) 4 i (-1)) 5 i 1) 6 i (atT i)).1 1 q = 0
          simp only [WI_at]
          rw [if_neg (by omega), if_neg (by omega), if_neg (by omega), if_neg (by omega), if_neg (by omega)]
          exact t2 q
        · by_cases y : j = i
          · subst y
            refine ⟨?_, ?_, ?_, ?_, ?_, ?_⟩
            · simp [mWL, WI_at]
            · simp [mWL, WI_at]
            · simp [mWL, WI_at]
            · simp [mWL, WI_at]
            · simp [mWL, WI_at]
            · rw [WL_at, if_pos ⟨rfl, rfl⟩]; rfl
          · obtain ⟨a1, a2, a3, a4, a5, a6⟩ := t3 j (by omega)
            refine ⟨?_, ?_, ?_, ?_, ?_, ?_⟩
            · simp [mWL, WI_at, y, a1]
            · simp [mWL, WI_at, y, a2]
            · simp [mWL, WI_at, y, a3]
            · simp [mWL, WI_at, y, a4]
            · simp [mWL, WI_at, y, a5]
            · rw [WL_at, if_neg (fun w => y w.2)]; exact a6
  refine loop 4 0 (by omega) _ ((((((fNw.refl.new (by omega)).new (by omega)).new (by omega)).new (by omega)).new (by omega)).new (by omega)) (fun k => ?_) (fun j hj => by omega)
  show (mNew (mNew (mNew (mNew (mNew (mNew σ 2) 3) 4) 5) 6) 7).1 1 k = 0
  simp only [mNew]
  exact hz k
theorem c_initI (hz : zI σ 8) : mC g l (d + 1) 29 [.ref 8] [(8, 7, [some 1, none, none, none, none, none, none]), (2, 7, [some 2, some 3, some 4, some 5, some 6, some 7, none]), (100, 40, []), (100, 40, []), (100, 40, []), (100, 40, []), (100, 40, []), (101, 40, []), (3, 2, [none, none])] σ (fun r sp σ1 => r = none ∧ sp = [(8, 7, [some 1, none, none, none, none, none, none]), (2, 7, [some 2, some 3, some 4, some 5, some 6, some 7, none]), (100, 40, []), (100, 40, []), (100, 40, []), (100, 40, []), (100, 40, []), (101, 40, []), (3, 2, [some 9, none]), (100, 40, [])] ∧ (fNw 8 σ σ1 ∧ σ1.1 8 1 = 0)) := by
  have ok : mOkP md_X3_init := ok_at 29 (by decide) rfl
  refine mC_of (md := md_X3_init) rfl (lt_at (by decide)) rfl ?_
  refine mGo_run (n := 400) ok rfl ?_
  refine mGo_obj ok rfl ob_3 (by omega) ?_
  refine mGo_run (n := 400) ok rfl ?_
  refine mGo_newa (i := 9) (N := 40) ok rfl rfl (Nat.le_of_ble_eq_true rfl) rfl (Nat.le_of_ble_eq_true rfl) (Nat.le_of_ble_eq_true rfl) (Nat.le_of_ble_eq_true rfl) rfl ?_
  refine mGo_run (n := 400) ok rfl ?_
  exact mGo_ret ok rfl trivial (⟨rfl, rfl, fNw.refl.new (by omega), by simp only [mNew]; exact hz 1⟩)
theorem c_initT : mC g l (d + 1) 59 [.ref 10, .ref 1] [(8, 7, [some 1, some 8, none, none, none, none, none]), (2, 7, [some 2, some 3, some 4, some 5, some 6, some 7, none]), (100, 40, []), (100, 40, []), (100, 40, []), (100, 40, []), (100, 40, []), (101, 40, []), (3, 2, [some 9, none]), (100, 40, []), (6, 6, [none, none, none, none, none, none])] σ (fun r sp σ1 => r = none ∧ sp = [(8, 7, [some 1, some 8, none, none, none, none, none]), (2, 7, [some 2, some 3, some 4, some 5, some 6, some 7, none]), (100, 40, []), (100, 40, []), (100, 40, []), (100, 40, []), (100, 40, []), (101, 40, []), (3, 2, [some 9, none]), (100, 40, []), (6, 6, [some 1, some 11, some 12, none, none, none]), (100, 40, []), (100, 40, [])] ∧ fNw 10 σ σ1) := by
  have ok : mOkP md_X6_init := ok_at 59 (by decide) rfl
  refine mC_of (md := md_X6_init) rfl (lt_at (by decide)) rfl ?_
  refine mGo_run (n := 400) ok rfl ?_
  refine mGo_obj ok rfl ob_6 (by omega) ?_
  refine mGo_run (n := 400) ok rfl ?_
  refine mGo_newa (i := 11) (N := 40) ok rfl rfl (Nat.le_of_ble_eq_true rfl) rfl (Nat.le_of_ble_eq_true rfl) (Nat.le_of_ble_eq_true rfl) (Nat.le_of_ble_eq_true rfl) rfl ?_
  refine mGo_run (n := 400) ok rfl ?_
  refine mGo_newa (i := 12) (N := 40) ok rfl rfl (Nat.le_of_ble_eq_true rfl) rfl (Nat.le_of_ble_eq_true rfl) (Nat.le_of_ble_eq_true rfl) (Nat.le_of_ble_eq_true rfl) rfl ?_
  refine mGo_run (n := 400) ok rfl ?_
  exact mGo_ret ok rfl trivial (⟨rfl, rfl, (fNw.refl.new (by omega)).new (by omega)⟩)
theorem c_initX : mC g l (d + 1) 69 [.ref 13, .ref 1] [(8, 7, [some 1, some 8, some 10, none, none, none, none]), (2, 7, [some 2, some 3, some 4, some 5, some 6, some 7, none]), (100, 40, []), (100, 40, []), (100, 40, []), (100, 40, []), (100, 40, []), (101, 40, []), (3, 2, [some 9, none]), (100, 40, []), (6, 6, [some 1, some 11, some 12, none, none, none]), (100, 40, []), (100, 40, []), (7, 2, [none, none])] σ (fun r sp σ1 => r = none ∧ sp = [(8, 7, [some 1, some 8, some 10, none, none, none, none]), (2, 7, [some 2, some 3, some 4, some 5, some 6, some 7, none]), (100, 40, []), (100, 40, []), (100, 40, []), (100, 40, []), (100, 40, []), (101, 40, []), (3, 2, [some 9, none]), (100, 40, []), (6, 6, [some 1, some 11, some 12, none, none, none]), (100, 40, []), (100, 40, []), (7, 2, [some 1, some 14]), (100, 40, [])] ∧ fNw 13 σ σ1) := by
  have ok : mOkP md_X7_init := ok_at 69 (by decide) rfl
  refine mC_of (md := md_X7_init) rfl (lt_at (by decide)) rfl ?_
  refine mGo_run (n := 400) ok rfl ?_
  refine mGo_obj ok rfl ob_7 (by omega) ?_
  refine mGo_run (n := 400) ok rfl ?_
  refine mGo_newa (i := 14) (N := 40) ok rfl rfl (Nat.le_of_ble_eq_true rfl) rfl (Nat.le_of_ble_eq_true rfl) (Nat.le_of_ble_eq_true rfl) (Nat.le_of_ble_eq_true rfl) rfl ?_
  refine mGo_run (n := 400) ok rfl ?_
  exact mGo_ret ok rfl trivial (⟨rfl, rfl, fNw.refl.new (by omega)⟩)
theorem c_initB18 : mC g l (d + 1) 0 [.ref 18, .ref 1] [(8, 7, [some 1, some 8, some 10, some 13, none, none, none]), (2, 7, [some 2, some 3, some 4, some 5, some 6, some 7, none]), (100, 40, []), (100, 40, []), (100, 40, []), (100, 40, []), (100, 40, []), (101, 40, []), (3, 2, [some 9, none]), (100, 40, []), (6, 6, [some 1, some 11, some 12, none, none, none]), (100, 40, []), (100, 40, []), (7, 2, [some 1, some 14]), (100, 40, []), (1, 6, [none, some 16, some 17, none, none, none]), (101, 20, []), (101, 20, []), (0, 9, [none, none, none, none, none, none, none, none, none])] σ (fun r sp σ1 => r = none ∧ sp = [(8, 7, [some 1, some 8, some 10, some 13, none, none, none]), (2, 7, [some 2, some 3, some 4, some 5, some 6, some 7, none]), (100, 40, []), (100, 40, []), (100, 40, []), (100, 40, []), (100, 40, []), (101, 40, []), (3, 2, [some 9, none]), (100, 40, []), (6, 6, [some 1, some 11, some 12, none, none, none]), (100, 40, []), (100, 40, []), (7, 2, [some 1, some 14]), (100, 40, []), (1, 6, [none, some 16, some 17, none, none, none]), (101, 20, []), (101, 20, []), (0, 9, [some 1, some 19, some 20, none, none, none, none, none, none]), (100, 120, []), (100, 120, [])] ∧ fNw 18 σ σ1) := by
  have ok : mOkP md_X0_init := ok_at 0 (by decide) rfl
  refine mC_of (md := md_X0_init) rfl (lt_at (by decide)) rfl ?_
  refine mGo_run (n := 400) ok rfl ?_
  refine mGo_obj ok rfl ob_0 (by omega) ?_
  refine mGo_run (n := 400) ok rfl ?_
  refine mGo_newa (i := 19) (N := 120) ok rfl rfl (Nat.le_of_ble_eq_true rfl) rfl (Nat.le_of_ble_eq_true rfl) (Nat.le_of_ble_eq_true rfl) (Nat.le_of_ble_eq_true rfl) rfl ?_
  refine mGo_run (n := 400) ok rfl ?_
  refine mGo_newa (i := 20) (N := 120) ok rfl rfl (Nat.le_of_ble_eq_true rfl) rfl (Nat.le_of_ble_eq_true rfl) (Nat.le_of_ble_eq_true rfl) (Nat.le_of_ble_eq_true rfl) rfl ?_
  refine mGo_run (n := 400) ok rfl ?_
  exact mGo_ret ok rfl trivial (⟨rfl, rfl, (fNw.refl.new (by omega)).new (by omega)⟩)
theorem c_initD (hz : zI σ 15) : mC g l (d + 2) 11 [.ref 15, .ref 1] [(8, 7, [some 1, some 8, some 10, some 13, none, none, none]), (2, 7, [some 2, some 3, some 4, some 5, some 6, some 7, none]), (100, 40, []), (100, 40, []), (100, 40, []), (100, 40, []), (100, 40, []), (101, 40, []), (3, 2, [some 9, none]), (100, 40, []), (6, 6, [some 1, some 11, some 12, none, none, none]), (100, 40, []), (100, 40, []), (7, 2, [some 1, some 14]), (100, 40, []), (1, 6, [none, none, none, none, none, none])] σ (fun r sp σ1 => r = none ∧ sp = [(8, 7, [some 1, some 8, some 10, some 13, none, none, none]), (2, 7, [some 2, some 3, some 4, some 5, some 6, some 7, none]), (100, 40, []), (100, 40, []), (100, 40, []), (100, 40, []), (100, 40, []), (101, 40, []), (3, 2, [some 9, none]), (100, 40, []), (6, 6, [some 1, some 11, some 12, none, none, none]), (100, 40, []), (100, 40, []), (7, 2, [some 1, some 14]), (100, 40, []), (1, 6, [some 18, some 16, some 17, none, none, none]), (101, 20, []), (101, 20, []), (0, 9, [some 1, some 19, some 20, none, none, none, none, none, none]), (100, 120, []), (100, 120, [])] ∧ (fNw 15 σ σ1 ∧ zI σ1 15)) := by
  have ok : mOkP md_X1_init := ok_at 11 (by decide) rfl
  refine mC_of (md := md_X1_init) rfl (lt_at (by decide)) rfl ?_
  refine mGo_run (n := 400) ok rfl ?_
  refine mGo_obj ok rfl ob_1 (by omega) ?_
  refine mGo_run (n := 400) ok rfl ?_
  refine mGo_newa (i := 16) (N := 20) ok rfl rfl (Nat.le_of_ble_eq_true rfl) rfl (Nat.le_of_ble_eq_true rfl) (Nat.le_of_ble_eq_true rfl) (Nat.le_of_ble_eq_true rfl) rfl ?_
  refine mGo_run (n := 400) ok rfl ?_
  refine mGo_newa (i := 17) (N := 20) ok rfl rfl (Nat.le_of_ble_eq_true rfl) rfl (Nat.le_of_ble_eq_true rfl) (Nat.le_of_ble_eq_true rfl) (Nat.le_of_ble_eq_true rfl) rfl ?_
  refine mGo_run (n := 400) ok rfl ?_
  refine mGo_newo (i := 18) ok rfl rfl (Nat.le_of_ble_eq_true rfl) (Nat.le_of_ble_eq_true rfl) (Nat.le_of_ble_eq_true rfl) rfl ?_
  refine mGo_run (n := 400) ok rfl ?_
  refine mGo_call ok rfl (by omega) (c_initB18 (d := d)) (fun r sp τ hq => ?_)
  obtain ⟨rfl, rfl, t1⟩ := hq
  refine mGo_run (n := 400) ok rfl ?_
  have f : fNw 18 (mNew (mNew (mNew σ 16) 17) 18) τ := t1
  have f0 : fNw 16 σ (mNew (mNew (mNew σ 16) 17) 18) := ((fNw.refl.new (by omega)).new (by omega)).new (by omega)
  exact mGo_ret ok rfl trivial (⟨rfl, rfl, (f0.trans (f.le (by omega))).le (by omega), zI_fr (f0.trans (f.le (by omega))) (by omega) hz⟩)
theorem c_initB28 : mC g l (d + 1) 0 [.ref 28, .ref 1] [(8, 7, [some 1, some 8, some 10, some 13, some 15, none, none]), (2, 7, [some 2, some 3, some 4, some 5, some 6, some 7, none]), (100, 40, []), (100, 40, []), (100, 40, []), (100, 40, []), (100, 40, []), (101, 40, []), (3, 2, [some 9, none]), (100, 40, []), (6, 6, [some 1, some 11, some 12, none, none, none]), (100, 40, []), (100, 40, []), (7, 2, [some 1, some 14]), (100, 40, []), (1, 6, [some 18, some 16, some 17, none, none, none]), (101, 20, []), (101, 20, []), (0, 9, [some 1, some 19, some 20, none, none, none, none, none, none]), (100, 120, []), (100, 120, []), (4, 12, [some 1, none, some 22, some 23, some 24, some 25, some 26, some 27, none, none, none, none]), (101, 300, []), (101, 300, []), (100, 300, []), (100, 1024, []), (100, 2048, []), (100, 301, []), (0, 9, [none, none, none, none, none, none, none, none, none])] σ (fun r sp σ1 => r = none ∧ sp = [(8, 7, [some 1, some 8, some 10, some 13, some 15, none, none]), (2, 7, [some 2, some 3, some 4, some 5, some 6, some 7, none]), (100, 40, []), (100, 40, []), (100, 40, []), (100, 40, []), (100, 40, []), (101, 40, []), (3, 2, [some 9, none]), (100, 40, []), (6, 6, [some 1, some 11, some 12, none, none, none]), (100, 40, []), (100, 40, []), (7, 2, [some 1, some 14]), (100, 40, []), (1, 6, [some 18, some 16, some 17, none, none, none]), (101, 20, []), (101, 20, []), (0, 9, [some 1, some 19, some 20, none, none, none, none, none, none]), (100, 120, []), (100, 120, []), (4, 12, [some 1, none, some 22, some 23, some 24, some 25, some 26, some 27, none, none, none, none]), (101, 300, []), (101, 300, []), (100, 300, []), (100, 1024, []), (100, 2048, []), (100, 301, []), (0, 9, [some 1, some 29, some 30, none, none, none, none, none, none]), (100, 120, []), (100, 120, [])] ∧ fNw 28 σ σ1) := by
  have ok : mOkP md_X0_init := ok_at 0 (by decide) rfl
  refine mC_of (md := md_X0_init) rfl (lt_at (by decide)) rfl ?_
  refine mGo_run (n := 400) ok rfl ?_
  refine mGo_obj ok rfl ob_0 (by omega) ?_
  refine mGo_run (n := 400) ok rfl ?_
  refine mGo_newa (i := 29) (N := 120) ok rfl rfl (Nat.le_of_ble_eq_true rfl) rfl (Nat.le_of_ble_eq_true rfl) (Nat.le_of_ble_eq_true rfl) (Nat.le_of_ble_eq_true rfl) rfl ?_
  refine mGo_run (n := 400) ok rfl ?_
  refine mGo_newa (i := 30) (N := 120) ok rfl rfl (Nat.le_of_ble_eq_true rfl) rfl (Nat.le_of_ble_eq_true rfl) (Nat.le_of_ble_eq_true rfl) (Nat.le_of_ble_eq_true rfl) rfl ?_
  refine mGo_run (n := 400) ok rfl ?_
  exact mGo_ret ok rfl trivial (⟨rfl, rfl, (fNw.refl.new (by omega)).new (by omega)⟩)
theorem c_initS : mC g l (d + 2) 33 [.ref 21, .ref 1] [(8, 7, [some 1, some 8, some 10, some 13, some 15, none, none]), (2, 7, [some 2, some 3, some 4, some 5, some 6, some 7, none]), (100, 40, []), (100, 40, []), (100, 40, []), (100, 40, []), (100, 40, []), (101, 40, []), (3, 2, [some 9, none]), (100, 40, []), (6, 6, [some 1, some 11, some 12, none, none, none]), (100, 40, []), (100, 40, []), (7, 2, [some 1, some 14]), (100, 40, []), (1, 6, [some 18, some 16, some 17, none, none, none]), (101, 20, []), (101, 20, []), (0, 9, [some 1, some 19, some 20, none, none, none, none, none, none]), (100, 120, []), (100, 120, []), (4, 12, [none, none, none, none, none, none, none, none, none, none, none, none])] σ (fun r sp σ1 => r = none ∧ sp = [(8, 7, [some 1, some 8, some 10, some 13, some 15, none, none]), (2, 7, [some 2, some 3, some 4, some 5, some 6, some 7, none]), (100, 40, []), (100, 40, []), (100, 40, []), (100, 40, []), (100, 40, []), (101, 40, []), (3, 2, [some 9, none]), (100, 40, []), (6, 6, [some 1, some 11, some 12, none, none, none]), (100, 40, []), (100, 40, []), (7, 2, [some 1, some 14]), (100, 40, []), (1, 6, [some 18, some 16, some 17, none, none, none]), (101, 20, []), (101, 20, []), (0, 9, [some 1, some 19, some 20, none, none, none, none, none, none]), (100, 120, []), (100, 120, []), (4, 12, [some 1, some 28, some 22, some 23, some 24, some 25, some 26, some 27, none, none, none, none]), (101, 300, []), (101, 300, []), (100, 300, []), (100, 1024, []), (100, 2048, []), (100, 301, []), (0, 9, [some 1, some 29, some 30, none, none, none, none, none, none]), (100, 120, []), (100, 120, [])] ∧ fNw 21 σ σ1) := by
  have ok : mOkP md_X4_init := ok_at 33 (by decide) rfl
  refine mC_of (md := md_X4_init) rfl (lt_at (by decide)) rfl ?_
  refine mGo_run (n := 400) ok rfl ?_
  refine mGo_obj ok rfl ob_4 (by omega) ?_
  refine mGo_run (n := 400) ok rfl ?_
  refine mGo_newa (i := 22) (N := 300) ok rfl rfl (Nat.le_of_ble_eq_true rfl) rfl (Nat.le_of_ble_eq_true rfl) (Nat.le_of_ble_eq_true rfl) (Nat.le_of_ble_eq_true rfl) rfl ?_
  refine mGo_run (n := 400) ok rfl ?_
  refine mGo_newa (i := 23) (N := 300) ok rfl rfl (Nat.le_of_ble_eq_true rfl) rfl (Nat.le_of_ble_eq_true rfl) (Nat.le_of_ble_eq_true rfl) (Nat.le_of_ble_eq_true rfl) rfl ?_
  refine mGo_run (n := 400) ok rfl ?_
  refine mGo_newa (i := 24) (N := 300) ok rfl rfl (Nat.le_of_ble_eq_true rfl) rfl (Nat.le_of_ble_eq_true rfl) (Nat.le_of_ble_eq_true rfl) (Nat.le_of_ble_eq_true rfl) rfl ?_
  refine mGo_run (n := 400) ok rfl ?_
  refine mGo_newa (i := 25) (N := 1024) ok rfl rfl (Nat.le_of_ble_eq_true rfl) rfl (Nat.le_of_ble_eq_true rfl) (Nat.le_of_ble_eq_true rfl) (Nat.le_of_ble_eq_true rfl) rfl ?_
  refine mGo_run (n := 400) ok rfl ?_
  refine mGo_newa (i := 26) (N := 2048) ok rfl rfl (Nat.le_of_ble_eq_true rfl) rfl (Nat.le_of_ble_eq_true rfl) (Nat.le_of_ble_eq_true rfl) (Nat.le_of_ble_eq_true rfl) rfl ?_
  refine mGo_run (n := 400) ok rfl ?_
  refine mGo_newa (i := 27) (N := 301) ok rfl rfl (Nat.le_of_ble_eq_true rfl) rfl (Nat.le_of_ble_eq_true rfl) (Nat.le_of_ble_eq_true rfl) (Nat.le_of_ble_eq_true rfl) rfl ?_
  refine mGo_run (n := 400) ok rfl ?_
  refine mGo_newo (i := 28) ok rfl rfl (Nat.le_of_ble_eq_true rfl) (Nat.le_of_ble_eq_true rfl) (Nat.le_of_ble_eq_true rfl) rfl ?_
  refine mGo_run (n := 400) ok rfl ?_
  refine mGo_call ok rfl (by omega) (c_initB28 (d := d)) (fun r sp τ hq => ?_)
  obtain ⟨rfl, rfl, t1⟩ := hq
  refine mGo_run (n := 400) ok rfl ?_
  exact mGo_ret ok rfl trivial (⟨rfl, rfl, (((((((fNw.refl.new (by omega)).new (by omega)).new (by omega)).new (by omega)).new (by omega)).new (by omega)).new (by omega)).trans (t1.le (by omega))⟩)
theorem c_initL32 (hz : zI σ 32) : mC g l (d + 1) 47 [.ref 32] [(8, 7, [some 1, some 8, some 10, some 13, some 15, some 21, some 31]), (2, 7, [some 2, some 3, some 4, some 5, some 6, some 7, none]), (100, 40, []), (100, 40, []), (100, 40, []), (100, 40, []), (100, 40, []), (101, 40, []), (3, 2, [some 9, none]), (100, 40, []), (6, 6, [some 1, some 11, some 12, none, none, none]), (100, 40, []), (100, 40, []), (7, 2, [some 1, some 14]), (100, 40, []), (1, 6, [some 18, some 16, some 17, none, none, none]), (101, 20, []), (101, 20, []), (0, 9, [some 1, some 19, some 20, none, none, none, none, none, none]), (100, 120, []), (100, 120, []), (4, 12, [some 1, some 28, some 22, some 23, some 24, some 25, some 26, some 27, none, none, none, none]), (101, 300, []), (101, 300, []), (100, 300, []), (100, 1024, []), (100, 2048, []), (100, 301, []), (0, 9, [some 1, some 29, some 30, none, none, none, none, none, none]), (100, 120, []), (100, 120, []), (103, 4, [none, none, none, none]), (5, 5, [none, none, none, none, none])] σ (fun r sp σ1 => r = none ∧ sp = [(8, 7, [some 1, some 8, some 10, some 13, some 15, some 21, some 31]), (2, 7, [some 2, some 3, some 4, some 5, some 6, some 7, none]), (100, 40, []), (100, 40, []), (100, 40, []), (100, 40, []), (100, 40, []), (101, 40, []), (3, 2, [some 9, none]), (100, 40, []), (6, 6, [some 1, some 11, some 12, none, none, none]), (100, 40, []), (100, 40, []), (7, 2, [some 1, some 14]), (100, 40, []), (1, 6, [some 18, some 16, some 17, none, none, none]), (101, 20, []), (101, 20, []), (0, 9, [some 1, some 19, some 20, none, none, none, none, none, none]), (100, 120, []), (100, 120, []), (4, 12, [some 1, some 28, some 22, some 23, some 24, some 25, some 26, some 27, none, none, none, none]), (101, 300, []), (101, 300, []), (100, 300, []), (100, 1024, []), (100, 2048, []), (100, 301, []), (0, 9, [some 1, some 29, some 30, none, none, none, none, none, none]), (100, 120, []), (100, 120, []), (103, 4, [none, none, none, none]), (5, 5, [some 33, some 34, some 35, none, none]), (101, 40, []), (102, 40, []), (100, 40, [])] ∧ (fNw 32 σ σ1 ∧ σ1.1 32 3 = -1 ∧ σ1.1 32 4 = 0)) := by
  have ok : mOkP md_X5_init := ok_at 47 (by decide) rfl
  refine mC_of (md := md_X5_init) rfl (lt_at (by decide)) rfl ?_
  refine mGo_run (n := 400) ok rfl ?_
  refine mGo_obj ok rfl ob_5 (by omega) ?_
  refine mGo_run (n := 400) ok rfl ?_
  refine mGo_newa (i := 33) (N := 40) ok rfl rfl (Nat.le_of_ble_eq_true rfl) rfl (Nat.le_of_ble_eq_true rfl) (Nat.le_of_ble_eq_true rfl) (Nat.le_of_ble_eq_true rfl) rfl ?_
  refine mGo_run (n := 400) ok rfl ?_
  refine mGo_newa (i := 34) (N := 40) ok rfl rfl (Nat.le_of_ble_eq_true rfl) rfl (Nat.le_of_ble_eq_true rfl) (Nat.le_of_ble_eq_true rfl) (Nat.le_of_ble_eq_true rfl) rfl ?_
  refine mGo_run (n := 400) ok rfl ?_
  refine mGo_newa (i := 35) (N := 40) ok rfl rfl (Nat.le_of_ble_eq_true rfl) rfl (Nat.le_of_ble_eq_true rfl) (Nat.le_of_ble_eq_true rfl) (Nat.le_of_ble_eq_true rfl) rfl ?_
  refine mGo_run (n := 400) ok rfl ?_
  exact mGo_ret ok rfl trivial (⟨rfl, rfl, (((fNw.refl.new (by omega)).new (by omega)).new (by omega)).WI (by omega), by rw [WI_at, if_pos ⟨rfl, rfl⟩], by rw [WI_at, if_neg (by omega)]; simp only [mNew]; exact hz 4⟩)
theorem c_initL36 (hz : zI σ 36) : mC g l (d + 1) 47 [.ref 36] [(8, 7, [some 1, some 8, some 10, some 13, some 15, some 21, some 31]), (2, 7, [some 2, some 3, some 4, some 5, some 6, some 7, none]), (100, 40, []), (100, 40, []), (100, 40, []), (100, 40, []), (100, 40, []), (101, 40, []), (3, 2, [some 9, none]), (100, 40, []), (6, 6, [some 1, some 11, some 12, none, none, none]), (100, 40, []), (100, 40, []), (7, 2, [some 1, some 14]), (100, 40, []), (1, 6, [some 18, some 16, some 17, none, none, none]), (101, 20, []), (101, 20, []), (0, 9, [some 1, some 19, some 20, none, none, none, none, none, none]), (100, 120, []), (100, 120, []), (4, 12, [some 1, some 28, some 22, some 23, some 24, some 25, some 26, some 27, none, none, none, none]), (101, 300, []), (101, 300, []), (100, 300, []), (100, 1024, []), (100, 2048, []), (100, 301, []), (0, 9, [some 1, some 29, some 30, none, none, none, none, none, none]), (100, 120, []), (100, 120, []), (103, 4, [some 32, none, none, none]), (5, 5, [some 33, some 34, some 35, none, none]), (101, 40, []), (102, 40, []), (100, 40, []), (5, 5, [none, none, none, none, none])] σ (fun r sp σ1 => r = none ∧ sp = [(8, 7, [some 1, some 8, some 10, some 13, some 15, some 21, some 31]), (2, 7, [some 2, some 3, some 4, some 5, some 6, some 7, none]), (100, 40, []), (100, 40, []), (100, 40, []), (100, 40, []), (100, 40, []), (101, 40, []), (3, 2, [some 9, none]), (100, 40, []), (6, 6, [some 1, some 11, some 12, none, none, none]), (100, 40, []), (100, 40, []), (7, 2, [some 1, some 14]), (100, 40, []), (1, 6, [some 18, some 16, some 17, none, none, none]), (101, 20, []), (101, 20, []), (0, 9, [some 1, some 19, some 20, none, none, none, none, none, none]), (100, 120, []), (100, 120, []), (4, 12, [some 1, some 28, some 22, some 23, some 24, some 25, some 26, some 27, none, none, none, none]), (101, 300, []), (101, 300, []), (100, 300, []), (100, 1024, []), (100, 2048, []), (100, 301, []), (0, 9, [some 1, some 29, some 30, none, none, none, none, none, none]), (100, 120, []), (100, 120, []), (103, 4, [some 32, none, none, none]), (5, 5, [some 33, some 34, some 35, none, none]), (101, 40, []), (102, 40, []), (100, 40, []), (5, 5, [some 37, some 38, some 39, none, none]), (101, 40, []), (102, 40, []), (100, 40, [])] ∧ (fNw 36 σ σ1 ∧ σ1.1 36 3 = -1 ∧ σ1.1 36 4 = 0)) := by
  have ok : mOkP md_X5_init := ok_at 47 (by decide) rfl
  refine mC_of (md := md_X5_init) rfl (lt_at (by decide)) rfl ?_
  refine mGo_run (n := 400) ok rfl ?_
  refine mGo_obj ok rfl ob_5 (by omega) ?_
  refine mGo_run (n := 400) ok rfl ?_
  refine mGo_newa (i := 37) (N := 40) ok rfl rfl (Nat.le_of_ble_eq_true rfl) rfl (Nat.le_of_ble_eq_true rfl) (Nat.le_of_ble_eq_true rfl) (Nat.le_of_ble_eq_true rfl) rfl ?_
  refine mGo_run (n := 400) ok rfl ?_
  refine mGo_newa (i := 38) (N := 40) ok rfl rfl (Nat.le_of_ble_eq_true rfl) rfl (Nat.le_of_ble_eq_true rfl) (Nat.le_of_ble_eq_true rfl) (Nat.le_of_ble_eq_true rfl) rfl ?_
  refine mGo_run (n := 400) ok rfl ?_
  refine mGo_newa (i := 39) (N := 40) ok rfl rfl (Nat.le_of_ble_eq_true rfl) rfl (Nat.le_of_ble_eq_true rfl) (Nat.le_of_ble_eq_true rfl) (Nat.le_of_ble_eq_true rfl) rfl ?_
  refine mGo_run (n := 400) ok rfl ?_
  exact mGo_ret ok rfl trivial (⟨rfl, rfl, (((fNw.refl.new (by omega)).new (by omega)).new (by omega)).WI (by omega), by rw [WI_at, if_pos ⟨rfl, rfl⟩], by rw [WI_at, if_neg (by omega)]; simp only [mNew]; exact hz 4⟩)
theorem c_initL40 (hz : zI σ 40) : mC g l (d + 1) 47 [.ref 40] [(8, 7, [some 1, some 8, some 10, some 13, some 15, some 21, some 31]), (2, 7, [some 2, some 3, some 4, some 5, some 6, some 7, none]), (100, 40, []), (100, 40, []), (100, 40, []), (100, 40, []), (100, 40, []), (101, 40, []), (3, 2, [some 9, none]), (100, 40, []), (6, 6, [some 1, some 11, some 12, none, none, none]), (100, 40, []), (100, 40, []), (7, 2, [some 1, some 14]), (100, 40, []), (1, 6, [some 18, some 16, some 17, none, none, none]), (101, 20, []), (101, 20, []), (0, 9, [some 1, some 19, some 20, none, none, none, none, none, none]), (100, 120, []), (100, 120, []), (4, 12, [some 1, some 28, some 22, some 23, some 24, some 25, some 26, some 27, none, none, none, none]), (101, 300, []), (101, 300, []), (100, 300, []), (100, 1024, []), (100, 2048, []), (100, 301, []), (0, 9, [some 1, some 29, some 30, none, none, none, none, none, none]), (100, 120, []), (100, 120, []), (103, 4, [some 32, some 36, none, none]), (5, 5, [some 33, some 34, some 35, none, none]), (101, 40, []), (102, 40, []), (100, 40, []), (5, 5, [some 37, some 38, some 39, none, none]), (101, 40, []), (102, 40, []), (100, 40, []), (5, 5, [none, none, none, none, none])] σ (fun r sp σ1 => r = none ∧ sp = [(8, 7, [some 1, some 8, some 10, some 13, some 15, some 21, some 31]), (2, 7, [some 2, some 3, some 4, some 5, some 6, some 7, none]), (100, 40, []), (100, 40, []), (100, 40, []), (100, 40, []), (100, 40, []), (101, 40, []), (3, 2, [some 9, none]), (100, 40, []), (6, 6, [some 1, some 11, some 12, none, none, none]), (100, 40, []), (100, 40, []), (7, 2, [some 1, some 14]), (100, 40, []), (1, 6, [some 18, some 16, some 17, none, none, none]), (101, 20, []), (101, 20, []), (0, 9, [some 1, some 19, some 20, none, none, none, none, none, none]), (100, 120, []), (100, 120, []), (4, 12, [some 1, some 28, some 22, some 23, some 24, some 25, some 26, some 27, none, none, none, none]), (101, 300, []), (101, 300, []), (100, 300, []), (100, 1024, []), (100, 2048, []), (100, 301, []), (0, 9, [some 1, some 29, some 30, none, none, none, none, none, none]), (100, 120, []), (100, 120, []), (103, 4, [some 32, some 36, none, none]), (5, 5, [some 33, some 34, some 35, none, none]), (101, 40, []), (102, 40, []), (100, 40, []), (5, 5, [some 37, some 38, some 39, none, none]), (101, 40, []), (102, 40, []), (100, 40, []), (5, 5, [some 41, some 42, some 43, none, none]), (101, 40, []), (102, 40, []), (100, 40, [])] ∧ (fNw 40 σ σ1 ∧ σ1.1 40 3 = -1 ∧ σ1.1 40 4 = 0)) := by
  have ok : mOkP md_X5_init := ok_at 47 (by decide) rfl
  refine mC_of (md := md_X5_init) rfl (lt_at (by decide)) rfl ?_
  refine mGo_run (n := 400) ok rfl ?_
  refine mGo_obj ok rfl ob_5 (by omega) ?_
  refine mGo_run (n := 400) ok rfl ?_
  refine mGo_newa (i := 41) (N := 40) ok rfl rfl (Nat.le_of_ble_eq_true rfl) rfl (Nat.le_of_ble_eq_true rfl) (Nat.le_of_ble_eq_true rfl) (Nat.le_of_ble_eq_true rfl) rfl ?_
  refine mGo_run (n := 400) ok rfl ?_
  refine mGo_newa (i := 42) (N := 40) ok rfl rfl (Nat.le_of_ble_eq_true rfl) rfl (Nat.le_of_ble_eq_true rfl) (Nat.le_of_ble_eq_true rfl) (Nat.le_of_ble_eq_true rfl) rfl ?_
  refine mGo_run (n := 400) ok rfl ?_
  refine mGo_newa (i := 43) (N := 40) ok rfl rfl (Nat.le_of_ble_eq_true rfl) rfl (Nat.le_of_ble_eq_true rfl) (Nat.le_of_ble_eq_true rfl) (Nat.le_of_ble_eq_true rfl) rfl ?_
  refine mGo_run (n := 400) ok rfl ?_
  exact mGo_ret ok rfl trivial (⟨rfl, rfl, (((fNw.refl.new (by omega)).new (by omega)).new (by omega)).WI (by omega), by rw [WI_at, if_pos ⟨rfl, rfl⟩], by rw [WI_at, if_neg (by omega)]; simp only [mNew]; exact hz 4⟩)
theorem c_initL44 (hz : zI σ 44) : mC g l (d + 1) 47 [.ref 44] [(8, 7, [some 1, some 8, some 10, some 13, some 15, some 21, some 31]), (2, 7, [some 2, some 3, some 4, some 5, some 6, some 7, none]), (100, 40, []), (100, 40, []), (100, 40, []), (100, 40, []), (100, 40, []), (101, 40, []), (3, 2, [some 9, none]), (100, 40, []), (6, 6, [some 1, some 11, some 12, none, none, none]), (100, 40, []), (100, 40, []), (7, 2, [some 1, some 14]), (100, 40, []), (1, 6, [some 18, some 16, some 17, none, none, none]), (101, 20, []), (101, 20, []), (0, 9, [some 1, some 19, some 20, none, none, none, none, none, none]), (100, 120, []), (100, 120, []), (4, 12, [some 1, some 28, some 22, some 23, some 24, some 25, some 26, some 27, none, none, none, none]), (101, 300, []), (101, 300, []), (100, 300, []), (100, 1024, []), (100, 2048, []), (100, 301, []), (0, 9, [some 1, some 29, some 30, none, none, none, none, none, none]), (100, 120, []), (100, 120, []), (103, 4, [some 32, some 36, some 40, none]), (5, 5, [some 33, some 34, some 35, none, none]), (101, 40, []), (102, 40, []), (100, 40, []), (5, 5, [some 37, some 38, some 39, none, none]), (101, 40, []), (102, 40, []), (100, 40, []), (5, 5, [some 41, some 42, some 43, none, none]), (101, 40, []), (102, 40, []), (100, 40, []), (5, 5, [none, none, none, none, none])] σ (fun r sp σ1 => r = none ∧ sp = [(8, 7, [some 1, some 8, some 10, some 13, some 15, some 21, some 31]), (2, 7, [some 2, some 3, some 4, some 5, some 6, some 7, none]), (100, 40, []), (100, 40, []), (100, 40, []), (100, 40, []), (100, 40, []), (101, 40, []), (3, 2, [some 9, none]), (100, 40, []), (6, 6, [some 1, some 11, some 12, none, none, none]), (100, 40, []), (100, 40, []), (7, 2, [some 1, some 14]), (100, 40, []), (1, 6, [some 18, some 16, some 17, none, none, none]), (101, 20, []), (101, 20, []), (0, 9, [some 1, some 19, some 20, none, none, none, none, none, none]), (100, 120, []), (100, 120, []), (4, 12, [some 1, some 28, some 22, some 23, some 24, some 25, some 26, some 27, none, none, none, none]), (101, 300, []), (101, 300, []), (100, 300, []), (100, 1024, []), (100, 2048, []), (100, 301, []), (0, 9, [some 1, some 29, some 30, none, none, none, none, none, none]), (100, 120, []), (100, 120, []), (103, 4, [some 32, some 36, some 40, none]), (5, 5, [some 33, some 34, some 35, none, none]), (101, 40, []), (102, 40, []), (100, 40, []), (5, 5, [some 37, some 38, some 39, none, none]), (101, 40, []), (102, 40, []), (100, 40, []), (5, 5, [some 41, some 42, some 43, none, none]), (101, 40, []), (102, 40, []), (100, 40, []), (5, 5, [some 45, some 46, some 47, none, none]), (101, 40, []), (102, 40, []), (100, 40, [])] ∧ (fNw 44 σ σ1 ∧ σ1.1 44 3 = -1 ∧ σ1.1 44 4 = 0)) := by
  have ok : mOkP md_X5_init := ok_at 47 (by decide) rfl
  refine mC_of (md := md_X5_init) rfl (lt_at (by decide)) rfl ?_
  refine mGo_run (n := 400) ok rfl ?_
  refine mGo_obj ok rfl ob_5 (by omega) ?_
  refine mGo_run (n := 400) ok rfl ?_
  refine mGo_newa (i := 45) (N := 40) ok rfl rfl (Nat.le_of_ble_eq_true rfl) rfl (Nat.le_of_ble_eq_true rfl) (Nat.le_of_ble_eq_true rfl) (Nat.le_of_ble_eq_true rfl) rfl ?_
  refine mGo_run (n := 400) ok rfl ?_
  refine mGo_newa (i := 46) (N := 40) ok rfl rfl (Nat.le_of_ble_eq_true rfl) rfl (Nat.le_of_ble_eq_true rfl) (Nat.le_of_ble_eq_true rfl) (Nat.le_of_ble_eq_true rfl) rfl ?_
  refine mGo_run (n := 400) ok rfl ?_
  refine mGo_newa (i := 47) (N := 40) ok rfl rfl (Nat.le_of_ble_eq_true rfl) rfl (Nat.le_of_ble_eq_true rfl) (Nat.le_of_ble_eq_true rfl) (Nat.le_of_ble_eq_true rfl) rfl ?_
  refine mGo_run (n := 400) ok rfl ?_
  exact mGo_ret ok rfl trivial (⟨rfl, rfl, (((fNw.refl.new (by omega)).new (by omega)).new (by omega)).WI (by omega), by rw [WI_at, if_pos ⟨rfl, rfl⟩], by rw [WI_at, if_neg (by omega)]; simp only [mNew]; exact hz 4⟩)
set_option maxHeartbeats 2000000 in
theorem c_init : mC g l (d + 4) 75 [.ref 0] [(8, 7, [none, none, none, none, none, none, none])] σ (fun r sp σ1 => r = none ∧ sp = [(8, 7, [some 1, some 8, some 10, some 13, some 15, some 21, some 31]), (2, 7, [some 2, some 3, some 4, some 5, some 6, some 7, none]), (100, 40, []), (100, 40, []), (100, 40, []), (100, 40, []), (100, 40, []), (101, 40, []), (3, 2, [some 9, none]), (100, 40, []), (6, 6, [some 1, some 11, some 12, none, none, none]), (100, 40, []), (100, 40, []), (7, 2, [some 1, some 14]), (100, 40, []), (1, 6, [some 18, some 16, some 17, none, none, none]), (101, 20, []), (101, 20, []), (0, 9, [some 1, some 19, some 20, none, none, none, none, none, none]), (100, 120, []), (100, 120, []), (4, 12, [some 1, some 28, some 22, some 23, some 24, some 25, some 26, some 27, none, none, none, none]), (101, 300, []), (101, 300, []), (100, 300, []), (100, 1024, []), (100, 2048, []), (100, 301, []), (0, 9, [some 1, some 29, some 30, none, none, none, none, none, none]), (100, 120, []), (100, 120, []), (103, 4, [some 32, some 36, some 40, some 44]), (5, 5, [some 33, some 34, some 35, none, none]), (101, 40, []), (102, 40, []), (100, 40, []), (5, 5, [some 37, some 38, some 39, none, none]), (101, 40, []), (102, 40, []), (100, 40, []), (5, 5, [some 41, some 42, some 43, none, none]), (101, 40, []), (102, 40, []), (100, 40, []), (5, 5, [some 45, some 46, some 47, none, none]), (101, 40, []), (102, 40, []), (100, 40, [])] ∧ (cF σ1 Fz ∧ cS σ1 Fz ∧ σ1.1 8 1 = 0 ∧ zI σ1 15 ∧ ∀ k, k < 4 → σ1.1 (32 + 4 * k) 3 = -1 ∧ σ1.1 (32 + 4 * k) 4 = 0)) := by
  have ok : mOkP md_X8_init := ok_at 75 (by decide) rfl
  refine mC_of (md := md_X8_init) rfl (lt_at (by decide)) rfl ?_
  refine mGo_run (n := 400) ok rfl ?_
  refine mGo_obj ok rfl ob_8 (by omega) ?_
  refine mGo_run (n := 400) ok rfl ?_
  refine mGo_newo (i := 1) ok rfl rfl (Nat.le_of_ble_eq_true rfl) (Nat.le_of_ble_eq_true rfl) (Nat.le_of_ble_eq_true rfl) rfl ?_
  refine mGo_run (n := 400) ok rfl ?_
  refine mGo_call ok rfl (by omega) (c_initF (d := d) (zI_new _ _)) (fun r sp τ1 hq => ?_)
  obtain ⟨rfl, rfl, -, f1, s1⟩ := hq
  refine mGo_run (n := 400) ok rfl ?_
  refine mGo_newo (i := 8) ok rfl rfl (Nat.le_of_ble_eq_true rfl) (Nat.le_of_ble_eq_true rfl) (Nat.le_of_ble_eq_true rfl) rfl ?_
  refine mGo_run (n := 400) ok rfl ?_
  refine mGo_call ok rfl (by omega) (c_initI (d := d) (zI_new _ _)) (fun r sp τ2 hq => ?_)
  obtain ⟨rfl, rfl, p2, i2⟩ := hq
  have q2 : fNw 8 τ1 τ2 := (fNw.refl.new (by omega)).trans p2
  refine mGo_run (n := 400) ok rfl ?_
  refine mGo_newo (i := 10) ok rfl rfl (Nat.le_of_ble_eq_true rfl) (Nat.le_of_ble_eq_true rfl) (Nat.le_of_ble_eq_true rfl) rfl ?_
  refine mGo_run (n := 400) ok rfl ?_
  refine mGo_call ok rfl (by omega) (c_initT (d := d)) (fun r sp τ3 hq => ?_)
  obtain ⟨rfl, rfl, p3⟩ := hq
  have q3 : fNw 10 τ2 τ3 := (fNw.refl.new (by omega)).trans p3
  refine mGo_run (n := 400) ok rfl ?_
  refine mGo_newo (i := 13) ok rfl rfl (Nat.le_of_ble_eq_true rfl) (Nat.le_of_ble_eq_true rfl) (Nat.le_of_ble_eq_true rfl) rfl ?_
  refine mGo_run (n := 400) ok rfl ?_
  refine mGo_call ok rfl (by omega) (c_initX (d := d)) (fun r sp τ4 hq => ?_)
  obtain ⟨rfl, rfl, p4⟩ := hq
  have q4 : fNw 13 τ3 τ4 := (fNw.refl.new (by omega)).trans p4
  refine mGo_run (n := 400) ok rfl ?_
  refine mGo_newo (i := 15) ok rfl rfl (Nat.le_of_ble_eq_true rfl) (Nat.le_of_ble_eq_true rfl) (Nat.le_of_ble_eq_true rfl) rfl ?_
  refine mGo_run (n := 400) ok rfl ?_
  refine mGo_call ok rfl (by omega) (c_initD (d := d) (zI_new _ _)) (fun r sp τ5 hq => ?_)
  obtain ⟨rfl, rfl, p5, d5⟩ := hq
  have q5 : fNw 15 τ4 τ5 := (fNw.refl.new (by omega)).trans p5
  refine mGo_run (n := 400) ok rfl ?_
  refine mGo_newo (i := 21) ok rfl rfl (Nat.le_of_ble_eq_true rfl) (Nat.le_of_ble_eq_true rfl) (Nat.le_of_ble_eq_true rfl) rfl ?_
  refine mGo_run (n := 400) ok rfl ?_
  refine mGo_call ok rfl (by omega) (c_initS (d := d)) (fun r sp τ6 hq => ?_)
  obtain ⟨rfl, rfl, p6⟩ := hq
  have q6 : fNw 21 τ5 τ6 := (fNw.refl.new (by omega)).trans p6
  refine mGo_run (n := 400) ok rfl ?_
  refine mGo_newq (i := 31) (N := 4) ok rfl rfl (Nat.le_of_ble_eq_true rfl) rfl (Nat.le_of_ble_eq_true rfl) (Nat.le_of_ble_eq_true rfl) (Nat.le_of_ble_eq_true rfl) rfl ?_
  refine mGo_run (n := 400) ok rfl ?_
  refine mGo_if ok rfl (fun z => absurd z (by decide)) (fun _ => ?_)
  refine mGo_run (n := 400) ok rfl ?_
  refine mGo_newo (i := 32) ok rfl rfl (Nat.le_of_ble_eq_true rfl) (Nat.le_of_ble_eq_true rfl) (Nat.le_of_ble_eq_true rfl) rfl ?_
  refine mGo_run (n := 400) ok rfl ?_
  refine mGo_call ok rfl (by omega) (c_initL32 (d := d) (zI_new _ _)) (fun r sp υ0 hq => ?_)
  obtain ⟨rfl, rfl, pL0, a0, b0⟩ := hq
  have qL0 : fNw 32 (mNew τ6 31) υ0 := (fNw.refl.new (by omega)).trans pL0
  refine mGo_ast ok rfl (q := 31) (j := 32) rfl (by omega) rfl (by omega) (by unfold vp_in; decide) rfl ?_
  refine mGo_run (n := 400) ok rfl ?_
  refine mGo_if ok rfl (fun z => absurd z (by decide)) (fun _ => ?_)
  refine mGo_run (n := 400) ok rfl ?_
  refine mGo_newo (i := 36) ok rfl rfl (Nat.le_of_ble_eq_true rfl) (Nat.le_of_ble_eq_true rfl) (Nat.le_of_ble_eq_true rfl) rfl ?_
  refine mGo_run (n := 400) ok rfl ?_
  refine mGo_call ok rfl (by omega) (c_initL36 (d := d) (zI_new _ _)) (fun r sp υ1 hq => ?_)
  obtain ⟨rfl, rfl, pL1, a1, b1⟩ := hq
  have qL1 : fNw 36 υ0 υ1 := (fNw.refl.new (by omega)).trans pL1
  refine mGo_ast ok rfl (q := 31) (j := 36) rfl (by omega) rfl (by omega) (by unfold vp_in; decide) rfl ?_
  refine mGo_run (n := 400) ok rfl ?_
  refine mGo_if ok rfl (fun z => absurd z (by decide)) (fun _ => ?_)
  refine mGo_run (n := 400) ok rfl ?_
  refine mGo_newo (i := 40) ok rfl rfl (Nat.le_of_ble_eq_true rfl) (Nat.le_of_ble_eq_true rfl) (Nat.le_of_ble_eq_true rfl) rfl ?_
  refine mGo_run (n := 400) ok rfl ?_
  refine mGo_call ok rfl (by omega) (c_initL40 (d := d) (zI_new _ _)) (fun r sp υ2 hq => ?_)
  obtain ⟨rfl, rfl, pL2, a2, b2⟩ := hq
  have qL2 : fNw 40 υ1 υ2 := (fNw.refl.new (by omega)).trans pL2
  refine mGo_ast ok rfl (q := 31) (j := 40) rfl (by omega) rfl (by omega) (by unfold vp_in; decide) rfl ?_
  refine mGo_run (n := 400) ok rfl ?_
  refine mGo_if ok rfl (fun z => absurd z (by decide)) (fun _ => ?_)
  refine mGo_run (n := 400) ok rfl ?_
  refine mGo_newo (i := 44) ok rfl rfl (Nat.le_of_ble_eq_true rfl) (Nat.le_of_ble_eq_true rfl) (Nat.le_of_ble_eq_true rfl) rfl ?_
  refine mGo_run (n := 400) ok rfl ?_
  refine mGo_call ok rfl (by omega) (c_initL44 (d := d) (zI_new _ _)) (fun r sp υ3 hq => ?_)
  obtain ⟨rfl, rfl, pL3, a3, b3⟩ := hq
  have qL3 : fNw 44 υ2 υ3 := (fNw.refl.new (by omega)).trans pL3
  refine mGo_ast ok rfl (q := 31) (j := 44) rfl (by omega) rfl (by omega) (by unfold vp_in; decide) rfl ?_
  refine mGo_run (n := 400) ok rfl ?_
  refine mGo_if ok rfl (fun _ => ?_) (fun z => absurd (by decide) z)
  refine mGo_run (n := 400) ok rfl ?_
  have r6 : fNw 31 τ6 υ3 := ((((fNw.refl.new (by omega)).trans (qL0.le (by omega))).trans (qL1.le (by omega))).trans (qL2.le (by omega))).trans (qL3.le (by omega))
  have r5 : fNw 21 τ5 υ3 := q6.trans (r6.le (by omega))
  have r4 : fNw 15 τ4 υ3 := q5.trans (r5.le (by omega))
  have r3 : fNw 13 τ3 υ3 := q4.trans (r4.le (by omega))
  have r2 : fNw 10 τ2 υ3 := q3.trans (r3.le (by omega))
  have r1 : fNw 8 τ1 υ3 := q2.trans (r2.le (by omega))
  have e1 := r1
  have l2 : fNw 44 υ2 υ3 := qL3
  have l1 : fNw 40 υ1 υ3 := qL2.trans (l2.le (by omega))
  have l0 : fNw 36 υ0 υ3 := qL1.trans (l1.le (by omega))
  refine mGo_ret ok rfl trivial ⟨rfl, rfl, ⟨?_, fun j hj => ?_⟩, fun j hj => ?_, ?_, ?_, fun k hk => ?_⟩
  · rw [(e1 1 (by omega)).1]; exact f1.1
  · obtain ⟨x1, x2, x3⟩ := f1.2 j hj
    rw [(e1 2 (by omega)).1, (e1 3 (by omega)).1, (e1 4 (by omega)).1]
    exact ⟨x1, x2, x3⟩
  · obtain ⟨x1, x2, x3⟩ := s1 j hj
    rw [(e1 5 (by omega)).1, (e1 6 (by omega)).1, (e1 7 (by omega)).2.1]
    exact ⟨x1, x2, x3⟩
  · rw [(r2 8 (by omega)).1]; exact i2
  · exact zI_fr r5 (by omega) d5
  · match k, hk with
    | 0, _ => exact ⟨by rw [(l0 (32 + 4 * 0) (by omega)).1]; exact a0, by rw [(l0 (32 + 4 * 0) (by omega)).1]; exact b0⟩
    | 1, _ => exact ⟨by rw [(l1 (32 + 4 * 1) (by omega)).1]; exact a1, by rw [(l1 (32 + 4 * 1) (by omega)).1]; exact b1⟩
    | 2, _ => exact ⟨by rw [(l2 (32 + 4 * 2) (by omega)).1]; exact a2, by rw [(l2 (32 + 4 * 2) (by omega)).1]; exact b2⟩
    | 3, _ => exact ⟨a3, b3⟩
    | n + 4, h => omega
set_option maxHeartbeats 2000000 in
theorem m_init (hz : zI σ 48) : mC g l (d + 1) 117 [.ref 48] [(8, 7, [some 1, some 8, some 10, some 13, some 15, some 21, some 31]), (2, 7, [some 2, some 3, some 4, some 5, some 6, some 7, none]), (100, 40, []), (100, 40, []), (100, 40, []), (100, 40, []), (100, 40, []), (101, 40, []), (3, 2, [some 9, none]), (100, 40, []), (6, 6, [some 1, some 11, some 12, none, none, none]), (100, 40, []), (100, 40, []), (7, 2, [some 1, some 14]), (100, 40, []), (1, 6, [some 18, some 16, some 17, none, none, none]), (101, 20, []), (101, 20, []), (0, 9, [some 1, some 19, some 20, none, none, none, none, none, none]), (100, 120, []), (100, 120, []), (4, 12, [some 1, some 28, some 22, some 23, some 24, some 25, some 26, some 27, none, none, none, none]), (101, 300, []), (101, 300, []), (100, 300, []), (100, 1024, []), (100, 2048, []), (100, 301, []), (0, 9, [some 1, some 29, some 30, none, none, none, none, none, none]), (100, 120, []), (100, 120, []), (103, 4, [some 32, some 36, some 40, some 44]), (5, 5, [some 33, some 34, some 35, none, none]), (101, 40, []), (102, 40, []), (100, 40, []), (5, 5, [some 37, some 38, some 39, none, none]), (101, 40, []), (102, 40, []), (100, 40, []), (5, 5, [some 41, some 42, some 43, none, none]), (101, 40, []), (102, 40, []), (100, 40, []), (5, 5, [some 45, some 46, some 47, none, none]), (101, 40, []), (102, 40, []), (100, 40, []), (9, 35, [none, none, none, none, none, none, none, none, none, none, none, none, none, none, none, none, none, none, none, none, none, none, none, none, none, none, none, none, none, none, none, none, none, none, none])] σ (fun r sp σ1 => r = none ∧ sp = SH 26 [] ∧ (fNw 48 σ σ1 ∧ mF σ1 Fz ∧ (∀ k, k ≠ 0 → σ1.1 48 k = 0) ∧ ∀ k, k < 4 → σ1.1 62 k = -1)) := by
  have ok : mOkP md_X9_init := ok_at 117 (by decide) rfl
  refine mC_of (md := md_X9_init) rfl (lt_at (by decide)) rfl ?_
  refine mGo_run (n := 400) ok rfl ?_
  refine mGo_obj ok rfl ob_9 (by omega) ?_
  refine mGo_run (n := 400) ok rfl ?_
  refine mGo_newa (i := 49) (N := 40) ok rfl rfl (Nat.le_of_ble_eq_true rfl) rfl (Nat.le_of_ble_eq_true rfl) (Nat.le_of_ble_eq_true rfl) (Nat.le_of_ble_eq_true rfl) rfl ?_
  refine mGo_run (n := 400) ok rfl ?_
  refine mGo_newa (i := 50) (N := 40) ok rfl rfl (Nat.le_of_ble_eq_true rfl) rfl (Nat.le_of_ble_eq_true rfl) (Nat.le_of_ble_eq_true rfl) (Nat.le_of_ble_eq_true rfl) rfl ?_
  refine mGo_run (n := 400) ok rfl ?_
  refine mGo_newa (i := 51) (N := 40) ok rfl rfl (Nat.le_of_ble_eq_true rfl) rfl (Nat.le_of_ble_eq_true rfl) (Nat.le_of_ble_eq_true rfl) (Nat.le_of_ble_eq_true rfl) rfl ?_
  refine mGo_run (n := 400) ok rfl ?_
  refine mGo_newa (i := 52) (N := 40) ok rfl rfl (Nat.le_of_ble_eq_true rfl) rfl (Nat.le_of_ble_eq_true rfl) (Nat.le_of_ble_eq_true rfl) (Nat.le_of_ble_eq_true rfl) rfl ?_
  refine mGo_run (n := 400) ok rfl ?_
  refine mGo_newa (i := 53) (N := 40) ok rfl rfl (Nat.le_of_ble_eq_true rfl) rfl (Nat.le_of_ble_eq_true rfl) (Nat.le_of_ble_eq_true rfl) (Nat.le_of_ble_eq_true rfl) rfl ?_
  refine mGo_run (n := 400) ok rfl ?_
  refine mGo_newa (i := 54) (N := 40) ok rfl rfl (Nat.le_of_ble_eq_true rfl) rfl (Nat.le_of_ble_eq_true rfl) (Nat.le_of_ble_eq_true rfl) (Nat.le_of_ble_eq_true rfl) rfl ?_
  refine mGo_run (n := 400) ok rfl ?_
  refine mGo_newa (i := 55) (N := 40) ok rfl rfl (Nat.le_of_ble_eq_true rfl) rfl (Nat.le_of_ble_eq_true rfl) (Nat.le_of_ble_eq_true rfl) (Nat.le_of_ble_eq_true rfl) rfl ?_
  refine mGo_run (n := 400) ok rfl ?_
  refine mGo_newa (i := 56) (N := 40) ok rfl rfl (Nat.le_of_ble_eq_true rfl) rfl (Nat.le_of_ble_eq_true rfl) (Nat.le_of_ble_eq_true rfl) (Nat.le_of_ble_eq_true rfl) rfl ?_
  refine mGo_run (n := 400) ok rfl ?_
  refine mGo_newa (i := 57) (N := 301) ok rfl rfl (Nat.le_of_ble_eq_true rfl) rfl (Nat.le_of_ble_eq_true rfl) (Nat.le_of_ble_eq_true rfl) (Nat.le_of_ble_eq_true rfl) rfl ?_
  refine mGo_run (n := 400) ok rfl ?_
  refine mGo_newa (i := 58) (N := 301) ok rfl rfl (Nat.le_of_ble_eq_true rfl) rfl (Nat.le_of_ble_eq_true rfl) (Nat.le_of_ble_eq_true rfl) (Nat.le_of_ble_eq_true rfl) rfl ?_
  refine mGo_run (n := 400) ok rfl ?_
  refine mGo_newa (i := 59) (N := 301) ok rfl rfl (Nat.le_of_ble_eq_true rfl) rfl (Nat.le_of_ble_eq_true rfl) (Nat.le_of_ble_eq_true rfl) (Nat.le_of_ble_eq_true rfl) rfl ?_
  refine mGo_run (n := 400) ok rfl ?_
  refine mGo_newa (i := 60) (N := 21) ok rfl rfl (Nat.le_of_ble_eq_true rfl) rfl (Nat.le_of_ble_eq_true rfl) (Nat.le_of_ble_eq_true rfl) (Nat.le_of_ble_eq_true rfl) rfl ?_
  refine mGo_run (n := 400) ok rfl ?_
  refine mGo_newa (i := 61) (N := 21) ok rfl rfl (Nat.le_of_ble_eq_true rfl) rfl (Nat.le_of_ble_eq_true rfl) (Nat.le_of_ble_eq_true rfl) (Nat.le_of_ble_eq_true rfl) rfl ?_
  refine mGo_run (n := 400) ok rfl ?_
  refine mGo_newa (i := 62) (N := 4) ok rfl rfl (Nat.le_of_ble_eq_true rfl) rfl (Nat.le_of_ble_eq_true rfl) (Nat.le_of_ble_eq_true rfl) (Nat.le_of_ble_eq_true rfl) rfl ?_
  refine mGo_run (n := 400) ok rfl ?_
  refine mGo_side ok rfl (by unfold vp_in; decide) ?_
  refine mGo_run (n := 400) ok rfl ?_
  refine mGo_side ok rfl (by unfold vp_in; decide) ?_
  refine mGo_run (n := 400) ok rfl ?_
  refine mGo_side ok rfl (by unfold vp_in; decide) ?_
  refine mGo_run (n := 400) ok rfl ?_
  refine mGo_side ok rfl (by unfold vp_in; decide) ?_
  refine mGo_run (n := 400) ok rfl ?_
  refine mGo_newa (i := 63) (N := 4) ok rfl rfl (Nat.le_of_ble_eq_true rfl) rfl (Nat.le_of_ble_eq_true rfl) (Nat.le_of_ble_eq_true rfl) (Nat.le_of_ble_eq_true rfl) rfl ?_
  refine mGo_run (n := 400) ok rfl ?_
  refine mGo_newa (i := 64) (N := 160) ok rfl rfl (Nat.le_of_ble_eq_true rfl) rfl (Nat.le_of_ble_eq_true rfl) (Nat.le_of_ble_eq_true rfl) (Nat.le_of_ble_eq_true rfl) rfl ?_
  refine mGo_run (n := 400) ok rfl ?_
  refine mGo_newa (i := 65) (N := 160) ok rfl rfl (Nat.le_of_ble_eq_true rfl) rfl (Nat.le_of_ble_eq_true rfl) (Nat.le_of_ble_eq_true rfl) (Nat.le_of_ble_eq_true rfl) rfl ?_
  refine mGo_run (n := 400) ok rfl ?_
  refine mGo_newa (i := 66) (N := 40) ok rfl rfl (Nat.le_of_ble_eq_true rfl) rfl (Nat.le_of_ble_eq_true rfl) (Nat.le_of_ble_eq_true rfl) (Nat.le_of_ble_eq_true rfl) rfl ?_
  refine mGo_run (n := 400) ok rfl ?_
  refine mGo_newa (i := 67) (N := 40) ok rfl rfl (Nat.le_of_ble_eq_true rfl) rfl (Nat.le_of_ble_eq_true rfl) (Nat.le_of_ble_eq_true rfl) (Nat.le_of_ble_eq_true rfl) rfl ?_
  refine mGo_run (n := 400) ok rfl ?_
  refine mGo_ret ok rfl trivial ⟨rfl, rfl, (((((((((((((((((((((((fNw.refl.WI (by omega)).new (by omega)).new (by omega)).new (by omega)).new (by omega)).new (by omega)).new (by omega)).new (by omega)).new (by omega)).new (by omega)).new (by omega)).new (by omega)).new (by omega)).new (by omega)).new (by omega)).WI (by omega)).WI (by omega)).WI (by omega)).WI (by omega)).new (by omega)).new (by omega)).new (by omega)).new (by omega)).new (by omega), ⟨?_, fun j hj => ⟨?_, ?_, ?_⟩⟩, fun k hk => ?_, fun k hk => ?_⟩
  · simp [mNew, mWI, upd]; rfl
  · simp [mNew, mWI]; rfl
  · simp [mNew, mWI]; rfl
  · simp [mNew, mWI]; rfl
  · simp [mNew, mWI, upd, hk]; exact hz k
  · match k, hk with
    | 0, _ => simp [mNew, mWI, upd]
    | 1, _ => simp [mNew, mWI, upd]
    | 2, _ => simp [mNew, mWI, upd]
    | 3, _ => simp [mNew, mWI, upd]
    | n + 4, h => omega
end T
