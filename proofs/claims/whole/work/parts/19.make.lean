/-! numbers of the library; a formula is made -/
section T
variable {g : mG} {l : Launch} {d : Nat} {lk : Nat} {ex : mSh} {σ : mHp}
theorem c_max (x y : Int32) : mNP g l d 193 [.int x, .int y] lk ex σ (.int (if x < y then y else x)) := by
  have ok : mOkP md_J9_max := ok_at 193 (by decide) rfl
  refine mC_of (md := md_J9_max) rfl (lt_at (by decide)) rfl ?_
  refine mGo_run (n := 400) ok rfl ?_
  refine mGo_if ok rfl (fun h => ?_) (fun h => ?_)
  · refine mGo_run (n := 400) ok rfl ?_
    exact mGo_ret ok rfl trivial (⟨by rw [if_pos h], rfl, rfl⟩)
  · refine mGo_run (n := 400) ok rfl ?_
    exact mGo_ret ok rfl trivial (⟨by rw [if_neg h], rfl, rfl⟩)
theorem c_min (x y : Int32) : mNP g l d 194 [.int x, .int y] lk ex σ (.int (if y < x then y else x)) := by
  have ok : mOkP md_J9_min := ok_at 194 (by decide) rfl
  refine mC_of (md := md_J9_min) rfl (lt_at (by decide)) rfl ?_
  refine mGo_run (n := 400) ok rfl ?_
  refine mGo_if ok rfl (fun h => ?_) (fun h => ?_)
  · refine mGo_run (n := 400) ok rfl ?_
    exact mGo_ret ok rfl trivial (⟨by rw [if_pos h], rfl, rfl⟩)
  · refine mGo_run (n := 400) ok rfl ?_
    exact mGo_ret ok rfl trivial (⟨by rw [if_neg h], rfl, rfl⟩)
end T
/-- nothing has changed but cells from lo on, below hi -/
def fr (lo hi : Nat) (σ σ1 : mHp) : Prop := ∀ i, ¬ (lo ≤ i ∧ i < hi) → σ1.1 i = σ.1 i ∧ σ1.2.1 i = σ.2.1 i ∧ σ1.2.2 i = σ.2.2 i
theorem fr.refl {lo hi : Nat} {σ : mHp} : fr lo hi σ σ := fun _ _ => ⟨rfl, rfl, rfl⟩
theorem fr.trans {lo hi : Nat} {σ σ1 σ2 : mHp} (h1 : fr lo hi σ σ1) (h2 : fr lo hi σ1 σ2) : fr lo hi σ σ2 := fun i hi => by
  obtain ⟨a, b, c⟩ := h1 i hi
  obtain ⟨x, y, z⟩ := h2 i hi
  exact ⟨x.trans a, y.trans b, z.trans c⟩
theorem fr.wide {lo hi lo2 hi2 : Nat} {σ σ1 : mHp} (h : fr lo hi σ σ1) (h1 : lo2 ≤ lo) (h2 : hi ≤ hi2) : fr lo2 hi2 σ σ1 := fun i hi => h i (fun q => hi ⟨by omega, by omega⟩)
theorem fr.WI {lo hi i k : Nat} {v : Int32} {σ σ1 : mHp} (h : fr lo hi σ σ1) (h1 : lo ≤ i) (h2 : i < hi) : fr lo hi σ (mWI σ1 i k v) := fun j hj => by
  obtain ⟨a, b, c⟩ := h j hj
  exact ⟨by rw [← a]; simp only [mWI]; rw [if_neg (fun z => hj ⟨by omega, by omega⟩)], b, c⟩
theorem fr.WL {lo hi i k : Nat} {v : Int64} {σ σ1 : mHp} (h : fr lo hi σ σ1) (h1 : lo ≤ i) (h2 : i < hi) : fr lo hi σ (mWL σ1 i k v) := fun j hj => by
  obtain ⟨a, b, c⟩ := h j hj
  exact ⟨a, by rw [← b]; simp only [mWL]; rw [if_neg (fun z => hj ⟨by omega, by omega⟩)], c⟩
theorem fr.WD {lo hi i k : Nat} {v : UInt64} {σ σ1 : mHp} (h : fr lo hi σ σ1) (h1 : lo ≤ i) (h2 : i < hi) : fr lo hi σ (mWD σ1 i k v) := fun j hj => by
  obtain ⟨a, b, c⟩ := h j hj
  exact ⟨a, b, by rw [← c]; simp only [mWD]; rw [if_neg (fun z => hj ⟨by omega, by omega⟩)]⟩
theorem WI_at (σ : mHp) (i k a b : Nat) (v : Int32) : (mWI σ i k v).1 a b = if a = i ∧ b = k then v else σ.1 a b := by
  simp only [mWI, upd]
  by_cases h : a = i
  · subst h
    by_cases h2 : b = k <;> simp [h2, upd]
  · simp [h]
theorem WL_at (σ : mHp) (i k a b : Nat) (v : Int64) : (mWL σ i k v).2.1 a b = if a = i ∧ b = k then v else σ.2.1 a b := by
  simp only [mWL, vp_updL]
  by_cases h : a = i
  · subst h
    by_cases h2 : b = k <;> simp [h2, vp_updL]
  · simp [h]
theorem WD_at (σ : mHp) (i k a b : Nat) (v : UInt64) : (mWD σ i k v).2.2 a b = if a = i ∧ b = k then v else σ.2.2 a b := by
  simp only [mWD, vf_upd]
  by_cases h : a = i
  · subst h
    by_cases h2 : b = k <;> simp [h2, vf_upd]
  · simp [h]
theorem aN_mk (n : Nat) (K A B : Nat → Nat) : aN (n, K, A, B) = n := rfl
theorem aK_mk (n : Nat) (K A B : Nat → Nat) : aK (n, K, A, B) = K := rfl
theorem aA_mk (n : Nat) (K A B : Nat → Nat) : aA (n, K, A, B) = A := rfl
theorem aB_mk (n : Nat) (K A B : Nat → Nat) : aB (n, K, A, B) = B := rfl
/-- the long with the bit j alone -/
def bit (j : Nat) : Int64 := (1 : Int64) <<< ((nI j).toInt64 &&& 63)
def atT (j : Nat) : Int32 := if j = 0 then 43690 else if j = 1 then 52428 else if j = 2 then 61680 else 65280
/-- tables of the compound formulas: of the kind, and of the parts' tables -/
def tbK (k : Nat) (x y : Int32) : Int32 := if k = 1 then (x ^^^ (-1)) &&& 65535 else if k = 2 then x &&& y else if k = 3 then x ||| y else ((x ^^^ (-1)) ||| y) &&& 65535
def szR (F : aF) (s : Nat → Int32) (j : Nat) : Int32 := if aK F j = 0 then 1 else if 1 + s (aA F j) + (if aK F j = 1 then 0 else s (aB F j)) < 1000 then 1 + s (aA F j) + (if aK F j = 1 then 0 else s (aB F j)) else 1000
def tbR (F : aF) (t : Nat → Int32) (j : Nat) : Int32 := if aK F j = 0 then atT j else tbK (aK F j) (t (aA F j)) (if aK F j = 1 then 0 else t (aB F j))
def sbR (F : aF) (s : Nat → Int64) (j : Nat) : Int64 := if aK F j = 0 then bit j else (bit j ||| s (aA F j)) ||| (if aK F j = 1 then 0 else s (aB F j))
/-- what is known of each formula since it was made -/
def cS (σ : mHp) (F : aF) : Prop := ∀ j, j < aN F → σ.1 5 j = szR F (σ.1 5) j ∧ σ.1 6 j = tbR F (σ.1 6) j ∧ σ.2.1 7 j = sbR F (σ.2.1 7) j
def up (f : Nat → Nat) (i v : Nat) : Nat → Nat := fun j => if j = i then v else f j
/-- a formula is made, or found; none: there is no room -/
def aMk (F : aF) (k a b : Nat) : Option Nat × aF := match fF F k a b with
  | some j => (some j, F)
  | none => if aN F < 40 then (some (aN F), (aN F + 1, up (aK F) (aN F) k, up (aA F) (aN F) a, up (aB F) (aN F) b)) else (none, F)
def oR (o : Option Nat) : Int32 := match o with
  | none => -3
  | some j => nI j
theorem aMk_ok {F : aF} (hf : fOk F) {k a b : Nat} (hk : 1 ≤ k ∧ k ≤ 4) (ha : a < aN F) (hb : b < aN F) (hb1 : k = 1 → b = 0) : fOk (aMk F k a b).2 ∧ (∀ j, (aMk F k a b).1 = some j → j < aN (aMk F k a b).2) ∧ aN F ≤ aN (aMk F k a b).2 := by
  unfold aMk
  cases h : fF F k a b with
  | some j =>
    refine ⟨hf, fun i hi => ?_, Nat.le_refl _⟩
    cases hi
    have := fnd_some h
    have := hf.1
    show j < aN F
    omega
  | none =>
    by_cases hn : aN F < 40
    · simp only [if_pos hn]
      obtain ⟨h4, h40, hw⟩ := hf
      refine ⟨⟨by show 4 ≤ aN F + 1; omega, by show aN F + 1 ≤ 40; omega, fun j hj => ?_⟩, fun i hi => by cases hi; show aN F < aN F + 1; omega, by show aN F ≤ aN F + 1; omega⟩
      have hj : j < aN F + 1 := hj
      show (up (aK F) (aN F) k j = 0 ↔ j < 4) ∧ up (aK F) (aN F) k j ≤ 4 ∧ (up (aK F) (aN F) k j ≠ 0 → up (aA F) (aN F) a j < j) ∧ (2 ≤ up (aK F) (aN F) k j → up (aB F) (aN F) b j < j) ∧ (up (aK F) (aN F) k j < 2 → up (aB F) (aN F) b j = 0) ∧ (up (aK F) (aN F) k j = 0 → up (aA F) (aN F) a j = 0)
      by_cases he : j = aN F
      · subst he
        simp only [up, if_true]
        exact ⟨by omega, hk.2, fun _ => ha, fun _ => hb, fun h => hb1 (by omega), fun h => by omega⟩
      · simp only [up, if_neg he]
        exact hw j (by omega)
    · simp only [if_neg hn]
      exact ⟨hf, (fun i hi => by cases hi), Nat.le_refl _⟩
section T
variable {g : mG} {l : Launch} {d : Nat} {lk : Nat} {ex : mSh} {σ : mHp} {F : aF}
theorem c_tableOf {k : Nat} (hk : 1 ≤ k ∧ k ≤ 4) (x y : Int32) : mNP g l d 28 [.int (nI k), .int x, .int y] lk ex σ (.int (tbK k x y)) := by
  have ok : mOkP md_X2_tableOf := ok_at 28 (by decide) rfl
  refine mC_of (md := md_X2_tableOf) rfl (lt_at (by decide)) rfl ?_
  refine mGo_run (n := 400) ok rfl ?_
  refine mGo_sw ok rfl ⟨fun h => ?_, fun h => ⟨fun h1 => ?_, fun h1 => ⟨fun h2 => ?_, fun h2 => ?_⟩⟩⟩
  · have e : k = 1 := (nI_eq (a := k) (b := 1) (by omega) (by omega)).mp h
    refine mGo_run (n := 400) ok rfl ?_
    exact mGo_ret ok rfl trivial (⟨by rw [tbK, if_pos e], rfl, rfl⟩)
  · have e : k = 2 := (nI_eq (a := k) (b := 2) (by omega) (by omega)).mp h1
    refine mGo_run (n := 400) ok rfl ?_
    exact mGo_ret ok rfl trivial (⟨by rw [tbK, if_neg (by omega), if_pos e], rfl, rfl⟩)
  · have e : k = 3 := (nI_eq (a := k) (b := 3) (by omega) (by omega)).mp h2
    refine mGo_run (n := 400) ok rfl ?_
    exact mGo_ret ok rfl trivial (⟨by rw [tbK, if_neg (by omega), if_neg (by omega), if_pos e], rfl, rfl⟩)
  · have e1 : k ≠ 1 := fun z => h (by rw [z]; rfl)
    have e2 : k ≠ 2 := fun z => h1 (by rw [z]; rfl)
    have e3 : k ≠ 3 := fun z => h2 (by rw [z]; rfl)
    refine mGo_run (n := 400) ok rfl ?_
    exact mGo_ret ok rfl trivial (⟨by rw [tbK, if_neg e1, if_neg e2, if_neg e3], rfl, rfl⟩)
/-- what a new formula is, in the tables -/
theorem mk_new {σ1 : mHp} (hf : fOk F) (hc : cF σ F) (hs : cS σ F) {k a b : Nat} (hk : 1 ≤ k ∧ k ≤ 4) (ha : a < aN F) (hb : b < aN F) (h0 : fF F k a b = none) (hn : aN F < 40) {S T : Int32} {U : Int64} (hS : S = if 1 + σ.1 5 a + (if k = 1 then 0 else σ.1 5 b) < 1000 then 1 + σ.1 5 a + (if k = 1 then 0 else σ.1 5 b) else 1000) (hT : T = tbK k (σ.1 6 a) (if k = 1 then 0 else σ.1 6 b)) (hU : U = (bit (aN F) ||| σ.2.1 7 a) ||| (if k = 1 then 0 else σ.2.1 7 b))
    (h1 : σ1 = mWI (mWL (mWI (mWI (mWI (mWI (mWI σ 2 (aN F) (nI k)) 3 (aN F) (nI a)) 4 (aN F) (if k < 2 then -1 else nI b)) 5 (aN F) S) 6 (aN F) T) 7 (aN F) U) 1 6 (nI (aN F + 1))) : fr 1 8 σ σ1 ∧ cF σ1 (aMk F k a b).2 ∧ cS σ1 (aMk F k a b).2 := by
  subst h1
  have e : aMk F k a b = (some (aN F), (aN F + 1, up (aK F) (aN F) k, up (aA F) (aN F) a, up (aB F) (aN F) b)) := by
    unfold aMk; rw [h0]; simp only [if_pos hn]
  rw [e]
  refine ⟨((((((((fr.refl.WI (by decide) (by decide)).WI (by decide) (by decide)).WI (by decide) (by decide)).WI (by decide) (by decide)).WI (by decide) (by decide)).WL (by decide) (by decide)).WI (by decide) (by decide))), ⟨?_, fun j hj => ?_⟩, fun j hj => ?_⟩
  · simp only [WI_at, and_self, if_true]
  · have hj : j < aN F + 1 := hj
    by_cases he : j = aN F
    · subst he
      have x0 : k ≠ 0 := by omega
      refine ⟨?_, ?_, ?_⟩
      · simp [aN_mk, aK_mk, aA_mk, aB_mk, WI_at, mWL, up]
      · simp [aN_mk, aK_mk, aA_mk, aB_mk, WI_at, mWL, up, x0]
      · simp [aN_mk, aK_mk, aA_mk, aB_mk, WI_at, mWL, up]
    · obtain ⟨c1, c2, c3⟩ := hc.2 j (by omega)
      refine ⟨?_, ?_, ?_⟩
      · simp [aN_mk, aK_mk, aA_mk, aB_mk, WI_at, mWL, up, he, c1]
      · simp [aN_mk, aK_mk, aA_mk, aB_mk, WI_at, mWL, up, he, c2]
      · simp [aN_mk, aK_mk, aA_mk, aB_mk, WI_at, mWL, up, he, c3]
  · have hj : j < aN F + 1 := hj
    have na : a ≠ aN F := by omega
    have nb : b ≠ aN F := by omega
    by_cases he : j = aN F
    · subst he
      have x0 : k ≠ 0 := by omega
      refine ⟨?_, ?_, ?_⟩
      · simp [aN_mk, aK_mk, aA_mk, aB_mk, szR, WI_at, mWL, up, x0, na, nb, hS]
      · simp [aN_mk, aK_mk, aA_mk, aB_mk, tbR, WI_at, mWL, up, x0, na, nb, hT]
      · simp [aN_mk, aK_mk, aA_mk, aB_mk, sbR, mWI, WL_at, up, x0, na, nb, hU]
    · obtain ⟨c1, c2, c3⟩ := hs j (by omega)
      obtain ⟨w1, w2, w3, w4, w5, w6⟩ := hf.2.2 j (by omega)
      have q1 : aA F j ≠ aN F := by
        by_cases z : aK F j = 0
        · rw [w6 z]; omega
        · have := w3 z; omega
      have q2 : aB F j ≠ aN F := by
        by_cases z : aK F j < 2
        · rw [w5 z]; omega
        · have := w4 (by omega); omega
      refine ⟨?_, ?_, ?_⟩
      · simp [aN_mk, aK_mk, aA_mk, aB_mk, szR, WI_at, mWL, up, he, q1, q2]
        rw [c1]; simp only [szR]
      · simp [aN_mk, aK_mk, aA_mk, aB_mk, tbR, WI_at, mWL, up, he, q1, q2]
        rw [c2]; simp only [tbR]
      · simp [aN_mk, aK_mk, aA_mk, aB_mk, sbR, mWI, WL_at, up, he, q1, q2]
        rw [c3]; simp only [sbR]
set_option maxHeartbeats 1000000 in
theorem c_make (hf : fOk F) (hc : cF σ F) (hs : cS σ F) {k a b : Nat} (hk : 1 ≤ k ∧ k ≤ 4) (ha : a < aN F) (hb : b < aN F) (hb1 : k = 1 → b = 0) : mNR g l (d + 1) 26 [.ref 1, .int (nI k), .int (nI a), .int (if k < 2 then -1 else nI b)] lk ex σ (.int (oR (aMk F k a b).1)) (fun σ1 => fr 1 8 σ σ1 ∧ cF σ1 (aMk F k a b).2 ∧ cS σ1 (aMk F k a b).2) := by
  obtain ⟨h4, h40, hw⟩ := id hf
  have ok : mOkP md_X2_make := ok_at 26 (by decide) rfl
  refine mC_of (md := md_X2_make) rfl (lt_at (by decide)) rfl ?_
  have main : ∀ s : Int32, s = (if k = 1 then 1 else 0) → mGo g l (d + 1) md_X2_make (SH lk ex).length (mTot (SH lk ex)) (12, [some (.ref 1), some (.int (nI k)), some (.int (nI a)), some (.int (if k < 2 then -1 else nI b)), some (.int s), none, none], [], SH lk ex, σ) (fun r sp σ1 => r = some (.int (oR (aMk F k a b).1)) ∧ sp = SH lk ex ∧ (fr 1 8 σ σ1 ∧ cF σ1 (aMk F k a b).2 ∧ cS σ1 (aMk F k a b).2)) := by
    intro s hs1
    refine mGo_run (n := 400) ok rfl ?_
    refine mGo_callP ok rfl (by omega) (c_has1 (d := d) hc.1 h40 ha) ?_
    refine mGo_run (n := 400) ok rfl ?_
    refine mGo_if ok rfl (fun h => ?_) (fun h => ?_)
    · exact absurd h (by decide)
    have tail : mGo g l (d + 1) md_X2_make (SH lk ex).length (mTot (SH lk ex)) (36, [some (.ref 1), some (.int (nI k)), some (.int (nI a)), some (.int (if k < 2 then -1 else nI b)), some (.int s), none, none], [], SH lk ex, σ) (fun r sp σ1 => r = some (.int (oR (aMk F k a b).1)) ∧ sp = SH lk ex ∧ (fr 1 8 σ σ1 ∧ cF σ1 (aMk F k a b).2 ∧ cS σ1 (aMk F k a b).2)) := by
      refine mGo_run (n := 400) ok rfl ?_
      refine mGo_callP ok rfl (by omega) (c_find (d := d) hf hc hk ha hb hb1) ?_
      refine mGo_run (n := 400) ok rfl ?_
      cases hF : fF F k a b with
      | some j =>
        have hj := fnd_some hF
        refine mGo_if ok rfl (fun h1 => ?_) (fun h1 => ?_)
        · exact absurd h1 (nI_pos (by omega))
        · refine mGo_run (n := 400) ok rfl ?_
          have e : aMk F k a b = (some j, F) := by unfold aMk; rw [hF]
          rw [e]
          exact mGo_ret ok rfl trivial (⟨rfl, rfl, fr.refl, hc, hs⟩)
      | none =>
        refine mGo_if ok rfl (fun h1 => ?_) (fun h1 => ?_)
        · refine mGo_run (n := 400) ok rfl ?_
          refine mGo_if ok rfl (fun h2 => ?_) (fun h2 => ?_)
          · rw [hc.1] at h2
            have hn : aN F < 40 := (nI_ltI (a := aN F) (b := 40) (by omega) (by omega)).mp h2
            have e1 : (aMk F k a b).1 = some (aN F) := by unfold aMk; rw [hF]; simp only [if_pos hn]
            have cn : (nI (aN F)).toNatClampNeg = aN F := nI_clamp (by omega)
            have ca : (nI a).toNatClampNeg = a := nI_clamp (by omega)
            have hin : ∀ {x : Nat}, x < 40 → vp_in (nI x) 40 := fun hx => nI_in hx (by omega)
            have cb : k ≠ 1 → (nI b).toNatClampNeg = b := fun _ => nI_clamp (by omega)
            by_cases hk1 : k = 1
            · have hs9 : ¬ s = 0 := by rw [hs1, if_pos hk1]; decide
              refine mGo_run (n := 400) ok rfl ?_
              rw [hc.1]
              refine mGo_side ok rfl (hin (by omega)) ?_
              rw [cn]
              refine mGo_run (n := 400) ok rfl ?_
              refine mGo_side ok rfl (hin (by omega)) ?_
              rw [cn]
              refine mGo_run (n := 400) ok rfl ?_
              refine mGo_side ok rfl (hin (by omega)) ?_
              rw [cn]
              refine mGo_run (n := 400) ok rfl ?_
              refine mGo_side ok rfl (hin (by omega)) ?_
              rw [ca]
              refine mGo_run (n := 400) ok rfl ?_
              refine mGo_if ok rfl (fun h9 => absurd h9 hs9) (fun h9 => ?_)
              refine mGo_run (n := 400) ok rfl ?_
              refine mGo_callP ok rfl (by omega) (c_min (d := d) _ _) ?_
              refine mGo_run (n := 400) ok rfl ?_
              refine mGo_side ok rfl (hin (by omega)) ?_
              rw [cn]
              refine mGo_run (n := 400) ok rfl ?_
              refine mGo_side ok rfl (hin (by omega)) ?_
              rw [ca]
              refine mGo_run (n := 400) ok rfl ?_
              refine mGo_if ok rfl (fun h9 => absurd h9 hs9) (fun h9 => ?_)
              refine mGo_run (n := 400) ok rfl ?_
              refine mGo_callP ok rfl (by omega) (c_tableOf (d := d) hk _ _) ?_
              refine mGo_run (n := 400) ok rfl ?_
              refine mGo_side ok rfl (hin (by omega)) ?_
              rw [cn]
              refine mGo_run (n := 400) ok rfl ?_
              refine mGo_side ok rfl (hin (by omega)) ?_
              rw [ca]
              refine mGo_run (n := 400) ok rfl ?_
              refine mGo_if ok rfl (fun h9 => absurd h9 hs9) (fun h9 => ?_)
              refine mGo_run (n := 400) ok rfl ?_
              refine mGo_side ok rfl (hin (by omega)) ?_
              rw [cn]
              refine mGo_run (n := 400) ok rfl ?_
              refine mGo_ret ok rfl trivial ⟨by rw [e1]; rfl, rfl, ?_⟩
              refine mk_new hf hc hs hk ha hb hF hn (S := _) (T := _) (U := _) ?_ ?_ ?_ (by rw [nI_1])
              · simp only [if_pos hk1]; rfl
              · simp only [if_pos hk1]; rfl
              · simp only [if_pos hk1]; rfl
            · have hs9 : s = 0 := by rw [hs1, if_neg hk1]
              have e2 : (if k < 2 then (-1 : Int32) else nI b) = nI b := if_neg (by omega)
              have cb := cb hk1
              rw [e2]
              refine mGo_run (n := 400) ok rfl ?_
              rw [hc.1]
              refine mGo_side ok rfl (hin (by omega)) ?_
              rw [cn]
              refine mGo_run (n := 400) ok rfl ?_
              refine mGo_side ok rfl (hin (by omega)) ?_
              rw [cn]
              refine mGo_run (n := 400) ok rfl ?_
              refine mGo_side ok rfl (hin (by omega)) ?_
              rw [cn]
              refine mGo_run (n := 400) ok rfl ?_
              refine mGo_side ok rfl (hin (by omega)) ?_
              rw [ca]
              refine mGo_run (n := 400) ok rfl ?_
              refine mGo_if ok rfl (fun h9 => ?_) (fun h9 => absurd hs9 h9)
              refine mGo_run (n := 400) ok rfl ?_
              refine mGo_side ok rfl (hin (by omega)) ?_
              rw [cb]
              refine mGo_run (n := 400) ok rfl ?_
              refine mGo_callP ok rfl (by omega) (c_min (d := d) _ _) ?_
              refine mGo_run (n := 400) ok rfl ?_
              refine mGo_side ok rfl (hin (by omega)) ?_
              rw [cn]
              refine mGo_run (n := 400) ok rfl ?_
              refine mGo_side ok rfl (hin (by omega)) ?_
              rw [ca]
              refine mGo_run (n := 400) ok rfl ?_
              refine mGo_if ok rfl (fun h9 => ?_) (fun h9 => absurd hs9 h9)
              refine mGo_run (n := 400) ok rfl ?_
              refine mGo_side ok rfl (hin (by omega)) ?_
              rw [cb]
              refine mGo_run (n := 400) ok rfl ?_
              refine mGo_callP ok rfl (by omega) (c_tableOf (d := d) hk _ _) ?_
              refine mGo_run (n := 400) ok rfl ?_
              refine mGo_side ok rfl (hin (by omega)) ?_
              rw [cn]
              refine mGo_run (n := 400) ok rfl ?_
              refine mGo_side ok rfl (hin (by omega)) ?_
              rw [ca]
              refine mGo_run (n := 400) ok rfl ?_
              refine mGo_if ok rfl (fun h9 => ?_) (fun h9 => absurd hs9 h9)
              refine mGo_run (n := 400) ok rfl ?_
              refine mGo_side ok rfl (hin (by omega)) ?_
              rw [cb]
              refine mGo_run (n := 400) ok rfl ?_
              refine mGo_side ok rfl (hin (by omega)) ?_
              rw [cn]
              refine mGo_run (n := 400) ok rfl ?_
              refine mGo_ret ok rfl trivial ⟨by rw [e1]; rfl, rfl, ?_⟩
              refine mk_new hf hc hs hk ha hb hF hn (S := _) (T := _) (U := _) ?_ ?_ ?_ (by rw [nI_1, e2])
              · simp only [if_neg hk1]; rfl
              · simp only [if_neg hk1]; rfl
              · simp only [if_neg hk1]; rfl
          · rw [hc.1] at h2
            have hn : ¬ aN F < 40 := fun z => h2 ((nI_ltI (a := aN F) (b := 40) (by omega) (by omega)).mpr z)
            have e : aMk F k a b = (none, F) := by unfold aMk; rw [hF]; simp only [if_neg hn]
            refine mGo_run (n := 400) ok rfl ?_
            rw [e]
            exact mGo_ret ok rfl trivial (⟨rfl, rfl, fr.refl, hc, hs⟩)
        · exact absurd (by decide) h1
    refine mGo_run (n := 400) ok rfl ?_
    refine mGo_if ok rfl (fun h1 => ?_) (fun h1 => ?_)
    · have hk1 : k ≠ 1 := fun z => by rw [hs1, if_pos z] at h1; exact absurd h1 (by decide)
      have e2 : (if k < 2 then (-1 : Int32) else nI b) = nI b := if_neg (by omega)
      refine mGo_run (n := 400) ok rfl ?_
      rw [e2] at tail ⊢
      refine mGo_callP ok rfl (by omega) (c_has1 (d := d) hc.1 h40 hb) ?_
      refine mGo_run (n := 400) ok rfl ?_
      refine mGo_if ok rfl (fun h2 => ?_) (fun h2 => ?_)
      · exact absurd h2 (by decide)
      · exact tail
    · exact tail
  refine mGo_run (n := 400) ok rfl ?_
  refine mGo_if ok rfl (fun h => ?_) (fun h => ?_)
  · refine mGo_runS 12 (n := 400) ok rfl ?_
    exact main 1 (by rw [if_pos ((nI_eq (a := k) (b := 1) (by omega) (by omega)).mp h)])
  · refine mGo_runS 12 (n := 400) ok rfl ?_
    exact main 0 (by rw [if_neg (fun z => h (by rw [z]; rfl))])
/-- a part that isn't there: no formula -/
theorem c_make_bad1 (hc : σ.1 1 6 = nI (aN F)) (hn : aN F ≤ 40) {k : Int32} {x y : Int32} (hx : ¬ ∃ j, j < aN F ∧ x = nI j) : mNP g l (d + 1) 26 [.ref 1, .int k, .int x, .int y] lk ex σ (.int (-3)) := by
  have ok : mOkP md_X2_make := ok_at 26 (by decide) rfl
  refine mC_of (md := md_X2_make) rfl (lt_at (by decide)) rfl ?_
  have main : ∀ s : Int32, mGo g l (d + 1) md_X2_make (SH lk ex).length (mTot (SH lk ex)) (12, [some (.ref 1), some (.int k), some (.int x), some (.int y), some (.int s), none, none], [], SH lk ex, σ) (fun r sp σ1 => r = some (.int (-3)) ∧ sp = SH lk ex ∧ σ1 = σ) := by
    intro s
    refine mGo_run (n := 400) ok rfl ?_
    refine mGo_callP ok rfl (by omega) (c_has0 (d := d) hc hn hx) ?_
    refine mGo_run (n := 400) ok rfl ?_
    refine mGo_if ok rfl (fun h => ?_) (fun h => ?_)
    · refine mGo_run (n := 400) ok rfl ?_
      exact mGo_ret ok rfl trivial (⟨rfl, rfl, rfl⟩)
    · exact absurd rfl h
  refine mGo_run (n := 400) ok rfl ?_
  refine mGo_if ok rfl (fun h => ?_) (fun h => ?_)
  · refine mGo_runS 12 (n := 400) ok rfl ?_
    exact main _
  · refine mGo_runS 12 (n := 400) ok rfl ?_
    exact main _
theorem c_make_bad2 (hc : σ.1 1 6 = nI (aN F)) (hn : aN F ≤ 40) {k : Int32} {a : Nat} {y : Int32} (hk : k ≠ 1) (ha : a < aN F) (hy : ¬ ∃ j, j < aN F ∧ y = nI j) : mNP g l (d + 1) 26 [.ref 1, .int k, .int (nI a), .int y] lk ex σ (.int (-3)) := by
  have ok : mOkP md_X2_make := ok_at 26 (by decide) rfl
  refine mC_of (md := md_X2_make) rfl (lt_at (by decide)) rfl ?_
  refine mGo_run (n := 400) ok rfl ?_
  refine mGo_if ok rfl (fun h => ?_) (fun h => ?_)
  · exact absurd h hk
  · refine mGo_run (n := 400) ok rfl ?_
    refine mGo_callP ok rfl (by omega) (c_has1 (d := d) hc hn ha) ?_
    refine mGo_run (n := 400) ok rfl ?_
    refine mGo_if ok rfl (fun h1 => ?_) (fun h1 => ?_)
    · exact absurd h1 (by decide)
    · refine mGo_run (n := 400) ok rfl ?_
      refine mGo_if ok rfl (fun h2 => ?_) (fun h2 => ?_)
      · refine mGo_run (n := 400) ok rfl ?_
        refine mGo_callP ok rfl (by omega) (c_has0 (d := d) hc hn hy) ?_
        refine mGo_run (n := 400) ok rfl ?_
        refine mGo_if ok rfl (fun h3 => ?_) (fun h3 => ?_)
        · refine mGo_run (n := 400) ok rfl ?_
          exact mGo_ret ok rfl trivial (⟨rfl, rfl, rfl⟩)
        · exact absurd rfl h3
      · exact absurd rfl h2
theorem c_negationOf (hf : fOk F) (hc : cF σ F) (hs : cS σ F) {a : Nat} (ha : a < aN F) : mNR g l (d + 2) 25 [.ref 1, .int (nI a)] lk ex σ (.int (oR (aMk F 1 a 0).1)) (fun σ1 => fr 1 8 σ σ1 ∧ cF σ1 (aMk F 1 a 0).2 ∧ cS σ1 (aMk F 1 a 0).2) := by
  have ok : mOkP md_X2_negationOf := ok_at 25 (by decide) rfl
  refine mC_of (md := md_X2_negationOf) rfl (lt_at (by decide)) rfl ?_
  refine mGo_run (n := 400) ok rfl ?_
  refine mGo_callR ok rfl (by omega) (c_make (d := d) (k := 1) (b := 0) hf hc hs (by omega) ha (by have := hf.1; omega) (fun _ => rfl)) (fun σ1 hσ1 => ?_)
  refine mGo_run (n := 400) ok rfl ?_
  exact mGo_ret ok rfl trivial (⟨rfl, rfl, hσ1⟩)
theorem c_negationOf_bad (hc : σ.1 1 6 = nI (aN F)) (hn : aN F ≤ 40) {x : Int32} (hx : ¬ ∃ j, j < aN F ∧ x = nI j) : mNP g l (d + 2) 25 [.ref 1, .int x] lk ex σ (.int (-3)) := by
  have ok : mOkP md_X2_negationOf := ok_at 25 (by decide) rfl
  refine mC_of (md := md_X2_negationOf) rfl (lt_at (by decide)) rfl ?_
  refine mGo_run (n := 400) ok rfl ?_
  refine mGo_callP ok rfl (by omega) (c_make_bad1 (d := d) hc hn hx) ?_
  refine mGo_run (n := 400) ok rfl ?_
  exact mGo_ret ok rfl trivial (⟨rfl, rfl, rfl⟩)
end T
