/-! the class: the present position's rank, the best move, the hardest reply -/
/-- of the dialogue's board the next position may change; the search changes -/
def fW (σ σ1 : mHp) : Prop := (∀ i, i < 68 → i ≠ 18 → ¬ (21 ≤ i ∧ i < 31) → sm3 σ σ1 i) ∧ σ1.1 18 = σ.1 18 ∧ ∀ j, j ∉ [7, 8] → σ1.2.1 18 j = σ.2.1 18 j
theorem fW_O {σ σ1 : mHp} (h : fO σ σ1) : fW σ σ1 := ⟨fun i a _ c => h i a c, (h 18 (by decide) (by decide)).1, fun j _ => by rw [(h 18 (by decide) (by decide)).2.1]⟩
theorem fW.trans {σ σ1 σ2 : mHp} (h1 : fW σ σ1) (h2 : fW σ1 σ2) : fW σ σ2 := ⟨fun i a b c => (h1.1 i a b c).trans (h2.1 i a b c), h2.2.1.trans h1.2.1, fun j hj => (h2.2.2 j hj).trans (h1.2.2 j hj)⟩
theorem fW_A {σ : mHp} {a b : Int64} : fW σ (mWL (mWL σ 18 7 a) 18 8 b) := by
  refine ⟨fun i h1 h2 h3 => ⟨rfl, ?_, rfl⟩, rfl, fun j hj => ?_⟩
  · funext j
    rw [WL_at, if_neg (fun z => h2 z.1), WL_at, if_neg (fun z => h2 z.1)]
  · simp at hj
    rw [WL_at, if_neg (by omega), WL_at, if_neg (by omega)]
theorem fW.cf {σ σ1 : mHp} {F : aF} (h : fW σ σ1) (hm : cF σ F) : cF σ1 F := by
  have e : ∀ i, 1 ≤ i → i < 8 → σ1.1 i = σ.1 i := fun i h1 h2 => (h.1 i (by omega) (by omega) (by omega)).1
  rw [cF, e 1 (by omega) (by omega), e 2 (by omega) (by omega), e 3 (by omega) (by omega), e 4 (by omega) (by omega)]
  exact hm
theorem fW.bm {σ σ1 : mHp} {ms : List (Nat × Nat)} (h : fW σ σ1) (hb : bM σ 18 ms) : bM σ1 18 ms := by
  refine ⟨by rw [h.2.1]; exact hb.1, fun i q hq => ?_⟩
  rw [(h.1 19 (by decide) (by decide) (by decide)).1, (h.1 20 (by decide) (by decide) (by decide)).1]
  exact hb.2 i q hq
theorem fW.cd {σ σ1 : mHp} {F : aF} {bg w : Bool} {k man : Nat} {ps : Nat → Int64 × Int64} (h : fW σ σ1) (hd : cD σ F bg w k man ps) : cD σ1 F bg w k man ps := by
  obtain ⟨d1, d2, d3, d4⟩ := hd
  have e15 := h.1 15 (by decide) (by decide) (by decide)
  have e16 := h.1 16 (by decide) (by decide) (by decide)
  have e17 := h.1 17 (by decide) (by decide) (by decide)
  refine ⟨by rw [e15.1]; exact d1, by rw [e15.1]; exact d2, by rw [e15.1]; exact d3, fun z => ?_⟩
  obtain ⟨f1, f2, f3, f4, f5⟩ := d4 z
  exact ⟨fun i hi => by rw [e16.2.1, e17.2.1]; exact f1 i hi, by rw [h.2.1]; exact f2, by rw [h.2.2 5 (by decide)]; exact f3, by rw [h.2.2 6 (by decide)]; exact f4, h.bm f5⟩
theorem rb1 (x : Nat) : (if rbA 0 ((List.range 1).map (fun _ => x)) = 0 then (0 : Int32) else nI (rbA 0 ((List.range 1).map (fun _ => x)) - 1)) = nI x := by
  simp only [List.range_succ, List.range_zero, List.nil_append, List.map_cons, List.map_nil, rbA]
  by_cases z : x = 0
  · simp [z]; rfl
  · simp [z, show 0 < x by omega]
section T
variable {g : mG} {l : Launch} {d : Nat} {σ : mHp} {F : aF} {bg w : Bool} {n man : Nat} {ps : Nat → Int64 × Int64}
def qPr (F : aF) (man : Nat) (on : Bool) (p : aP) : Int32 := if on = false then -7 else if 300 < (gB F man [p]).length then -6 else nI (gR F man (gB F man [p]) 0)
theorem c_presentRank (hf : fOk F) (hc : cF σ F) (hD : cD σ F bg w n man ps) (hm1 : man ≤ 1) {k : Nat} (hk : k ≤ 7) : mNS g l (d + 6) 114 [.ref 0] k σ (.int (qPr F man (bg && !w) (ps n))) (fun k1 σ1 => fO σ σ1 ∧ ((bg && !w) = true → (gB F man [ps n]).length ≤ 300 → sP σ1 (gB F man [ps n]) (gR F man (gB F man [ps n])))) := by
  show mC g l (d + 6) 114 [.ref 0] (SH (lkL k) (exL k)) σ _
  have ok : mOkP md_X8_presentRank := ok_at 114 (by decide) rfl
  refine mC_of (md := md_X8_presentRank) rfl (lt_at (by decide)) rfl ?_
  unfold qPr
  refine mGo_run (n := 400) ok rfl ?_
  refine mGo_callP ok rfl (by omega) (c_isOn (d := d) hD) ?_
  refine mGo_ifI ok rfl (bI_0) (fun h => ?_) (fun h => ?_)
  · rw [if_pos h]
    refine mGo_run (n := 400) ok rfl ?_
    exact mGo_ret ok rfl trivial (⟨rfl, k, Nat.le_refl _, hk, rfl, fO.refl, fun z => by rw [h] at z; cases z⟩)
  · have e : (bg && !w) = true := by simpa using h
    obtain ⟨rfl, rfl⟩ := on_bg e
    obtain ⟨g1, g2, g3, g4, g5⟩ := hD.2.2.2 rfl
    rw [if_neg h]
    refine mGo_run (n := 400) ok rfl ?_
    rw [g3, g4, g2]
    refine mGo_callV ok rfl (by omega) (c_startFromPosition (d := d) (k := k) (mn := man) (ps n)) (fun σ1 hσ1 => ?_)
    obtain ⟨f1, s1, s2, s3, s4, s5⟩ := hσ1
    refine mGo_run (n := 400) ok rfl ?_
    refine mGo_call ok rfl (by omega) (c_explore (d := d) hf (f1.cf hc) hk s2 s1 (nd_1 _) (by simp) s3 s4 hm1) (fun r sp σ2 hq => ?_)
    obtain ⟨rfl, k1, k1a, k1b, rfl, f2, y⟩ := hq
    have f12 := f1.trans (fO_E f2)
    refine mGo_ifI ok rfl (bI_0) (fun h1 => ?_) (fun h1 => ?_)
    · have h3 : ¬ (gB F man [ps n]).length ≤ 300 := of_decide_eq_false h1
      rw [if_pos (by omega)]
      refine mGo_run (n := 400) ok rfl ?_
      exact mGo_ret ok rfl trivial (⟨rfl, k1, k1a, k1b, rfl, f12, fun _ z => absurd z h3⟩)
    · have h3 : (gB F man [ps n]).length ≤ 300 := by simpa using h1
      have hy := y h3
      have hcl := gB_clo (F := F) (man := man) (P := [ps n]) (by simp) h3
      rw [if_neg (by omega)]
      refine mGo_run (n := 400) ok rfl ?_
      refine mGo_callV ok rfl (by omega) (c_settleRanks (d := d) hf k1b (sR_of hy) h3 hcl) (fun σ3 hσ3 => ?_)
      have f13 := f12.trans (fO_24 hσ3.1)
      refine mGo_run (n := 400) ok rfl ?_
      refine mGo_callP ok rfl (by omega) (c_highest (d := d) (k := k1) hσ3.2.1 h3 (fun i _ => by have := gR_le (F := F) (mn := man) (i := i) h3; omega) (n := 1) (by rw [(hσ3.1 21 (by decide)).1, f2.2.1]; exact s5) ((gB_pfx (F := F) (man := man) [ps n]).len)) ?_
      rw [show (List.range 1).map (gR F man (gB F man [ps n])) = (List.range 1).map (fun _ => gR F man (gB F man [ps n]) 0) from rfl, rb1]
      refine mGo_run (n := 400) ok rfl ?_
      exact mGo_ret ok rfl trivial (⟨rfl, k1, k1a, k1b, rfl, f13, fun _ _ => hσ3.2.1⟩)
theorem c_rankAfter (hf : fOk F) {τ : mHp} (hc : cF τ F) (hD : cD τ F true false n man ps) (hm1 : man ≤ 1) {k : Nat} (h3 : (gB F man [ps n]).length ≤ 300) (hs : sP τ (gB F man [ps n]) (gR F man (gB F man [ps n]))) {m : Nat} {q : Nat × Nat} (hq : (mvs F (ps n).1 (ps n).2)[m]? = some q) {r : Nat} (hr : r < rpN F q) : mNR g l (d + 4) 115 [.ref 0, .int (nI m), .int (nI r)] (lkL k) (exL k) τ (.int (nI (gR F man (gB F man [ps n]) (ix (gB F man [ps n]) (rpP F man (ps n).1 (ps n).2 q r))))) (fun σ1 => fW τ σ1 ∧ sP σ1 (gB F man [ps n]) (gR F man (gB F man [ps n]))) := by
  obtain ⟨g1, g2, g3, g4, g5⟩ := hD.2.2.2 rfl
  have hml := mvs_len hf (ps n).1 (ps n).2
  have hcl := gB_clo (F := F) (man := man) (P := [ps n]) (by simp) h3 0 (List.getElem?_eq_some_iff.mp (gB_0 (ps n))).1
  rw [gB_at0] at hcl
  have hx : rpP F man (ps n).1 (ps n).2 q r ∈ gB F man [ps n] := hcl q (List.mem_of_getElem? hq) _ (List.mem_map.mpr ⟨r, List.mem_range.mpr hr, rfl⟩)
  have ok : mOkP md_X8_rankAfter := ok_at 115 (by decide) rfl
  refine mC_of (md := md_X8_rankAfter) rfl (lt_at (by decide)) rfl ?_
  refine mGo_run (n := 400) ok rfl ?_
  refine mGo_callV ok rfl (by omega) (c_answer18 (d := d) hf hc g3 g4 g2 hm1 g5 (by omega) hq (mvs_at hf hq) hr) (fun τ1 hτ1 => ?_)
  have t1 : fW τ τ1 := by rw [hτ1]; exact fW_A
  have p1 : τ1.2.1 18 7 = (rpP F man (ps n).1 (ps n).2 q r).1 := by rw [hτ1]; simp [WL_at]
  have p2 : τ1.2.1 18 8 = (rpP F man (ps n).1 (ps n).2 q r).2 := by rw [hτ1]; simp [WL_at]
  have s1 : sP τ1 (gB F man [ps n]) (gR F man (gB F man [ps n])) := by
    rw [hτ1]
    obtain ⟨c1, c2, c3⟩ := hs
    refine ⟨c1, fun i p hp => ?_, c3⟩
    rw [WL_at, if_neg (by omega), WL_at, if_neg (by omega), WL_at, if_neg (by omega), WL_at, if_neg (by omega)]
    exact c2 i p hp
  clear hτ1
  refine mGo_run (n := 400) ok rfl ?_
  rw [p1, p2]
  refine mGo_callP ok rfl (by omega) (c_rankOf (d := d) (k := k) s1 (gB_nd (nd_1 _)) h3 hx) ?_
  refine mGo_run (n := 400) ok rfl ?_
  exact mGo_ret ok rfl trivial (⟨rfl, rfl, t1, s1⟩)
theorem c_longestAfter (hf : fOk F) {τ : mHp} (hc : cF τ F) (hD : cD τ F true false n man ps) (hm1 : man ≤ 1) {k : Nat} (h3 : (gB F man [ps n]).length ≤ 300) (hs : sP τ (gB F man [ps n]) (gR F man (gB F man [ps n]))) {m : Nat} {q : Nat × Nat} (hq : (mvs F (ps n).1 (ps n).2)[m]? = some q) : mNR g l (d + 5) 116 [.ref 0, .int (nI m)] (lkL k) (exL k) τ (.int (if mvR F man (gB F man [ps n]) (ps n) q = 0 then -5 else nI (mvR F man (gB F man [ps n]) (ps n) q - 1))) (fun σ1 => fW τ σ1 ∧ sP σ1 (gB F man [ps n]) (gR F man (gB F man [ps n]))) := by
  have hml := mvs_len hf (ps n).1 (ps n).2
  have hr3 := rpN_le F q
  obtain ⟨g1, g2, g3, g4, g5⟩ := hD.2.2.2 rfl
  have ok : mOkP md_X8_longestAfter := ok_at 116 (by decide) rfl
  refine mC_of (md := md_X8_longestAfter) rfl (lt_at (by decide)) rfl ?_
  refine mGo_run (n := 400) ok rfl ?_
  refine mGo_callP ok rfl (by omega) (c_repliesTo18 (d := d) hf hc g5 (by omega) hq (mvs_at hf hq)) ?_
  refine mGo_runS 17 (n := 400) ok rfl ?_
  have loop : ∀ mm r, r + mm = rpN F q → ∀ (τ1 : mHp) (a : Nat) (L5 : Option Value), a ≤ 300 → fW τ τ1 → sP τ1 (gB F man [ps n]) (gR F man (gB F man [ps n])) → mGo g l (d + 5) md_X8_longestAfter (SH (lkL k) (exL k)).length (mTot (SH (lkL k) (exL k))) (17, [some (.ref 0), some (.int (nI m)), some (.int (nI a)), some (.int (nI (rpN F q))), some (.int (nI r)), L5], [], SH (lkL k) (exL k), τ1) (fun r1 sp σ1 => r1 = some (.int (if rbA a (((List.range' r mm).map (fun r => rpP F man (ps n).1 (ps n).2 q r)).map (fun x => gR F man (gB F man [ps n]) (ix (gB F man [ps n]) x))) = 0 then -5 else nI (rbA a (((List.range' r mm).map (fun r => rpP F man (ps n).1 (ps n).2 q r)).map (fun x => gR F man (gB F man [ps n]) (ix (gB F man [ps n]) x))) - 1))) ∧ sp = SH (lkL k) (exL k) ∧ (fW τ σ1 ∧ sP σ1 (gB F man [ps n]) (gR F man (gB F man [ps n])))) := by
    intro mm
    induction mm with
    | zero =>
      intro r hr τ1 a L5 ha t s
      refine mGo_run (n := 400) ok rfl ?_
      refine mGo_ifI ok rfl (nI_leI (a := rpN F q) (b := r) (by omega) (by omega)) (fun h => ?_) (fun h => ?_)
      · refine mGo_run (n := 400) ok rfl ?_
        exact mGo_ret ok rfl trivial (⟨by simp [rbA], rfl, t, s⟩)
      · omega
    | succ mm ih =>
      intro r hr τ1 a L5 ha t s
      have hRx := gR_le (F := F) (mn := man) (i := ix (gB F man [ps n]) (rpP F man (ps n).1 (ps n).2 q r)) h3
      show mGo _ _ _ _ _ _ _ (fun r1 sp σ1 => r1 = some (.int (if (if gR F man (gB F man [ps n]) (ix (gB F man [ps n]) (rpP F man (ps n).1 (ps n).2 q r)) = 0 then 0 else rbA (if a < gR F man (gB F man [ps n]) (ix (gB F man [ps n]) (rpP F man (ps n).1 (ps n).2 q r)) then gR F man (gB F man [ps n]) (ix (gB F man [ps n]) (rpP F man (ps n).1 (ps n).2 q r)) else a) (((List.range' (r + 1) mm).map (fun r => rpP F man (ps n).1 (ps n).2 q r)).map (fun x => gR F man (gB F man [ps n]) (ix (gB F man [ps n]) x)))) = 0 then -5 else nI ((if gR F man (gB F man [ps n]) (ix (gB F man [ps n]) (rpP F man (ps n).1 (ps n).2 q r)) = 0 then 0 else rbA (if a < gR F man (gB F man [ps n]) (ix (gB F man [ps n]) (rpP F man (ps n).1 (ps n).2 q r)) then gR F man (gB F man [ps n]) (ix (gB F man [ps n]) (rpP F man (ps n).1 (ps n).2 q r)) else a) (((List.range' (r + 1) mm).map (fun r => rpP F man (ps n).1 (ps n).2 q r)).map (fun x => gR F man (gB F man [ps n]) (ix (gB F man [ps n]) x)))) - 1))) ∧ sp = SH (lkL k) (exL k) ∧ (fW τ σ1 ∧ sP σ1 (gB F man [ps n]) (gR F man (gB F man [ps n]))))
      refine mGo_run (n := 400) ok rfl ?_
      refine mGo_ifI ok rfl (nI_leI (a := rpN F q) (b := r) (by omega) (by omega)) (fun h => ?_) (fun h => ?_)
      · omega
      · refine mGo_run (n := 400) ok rfl ?_
        refine mGo_callR ok rfl (by omega) (c_rankAfter (d := d) (k := k) hf (t.cf hc) (t.cd hD) hm1 h3 s hq (r := r) (by omega)) (fun τ2 hτ2 => ?_)
        refine mGo_run (n := 400) ok rfl ?_
        refine mGo_ifI ok rfl (nI_eq (a := gR F man (gB F man [ps n]) (ix (gB F man [ps n]) (rpP F man (ps n).1 (ps n).2 q r))) (b := 0) (by omega) (by omega)) (fun h1 => ?_) (fun h1 => ?_)
        · rw [if_pos h1, if_pos rfl]
          refine mGo_run (n := 400) ok rfl ?_
          exact mGo_ret ok rfl trivial (⟨rfl, rfl, t.trans hτ2.1, hτ2.2⟩)
        · rw [if_neg h1]
          refine mGo_run (n := 400) ok rfl ?_
          refine mGo_callP ok rfl (by omega) (c_max (d := d) (nI a) (nI (gR F man (gB F man [ps n]) (ix (gB F man [ps n]) (rpP F man (ps n).1 (ps n).2 q r))))) ?_
          rw [nI_max (by omega) (by omega)]
          refine mGo_runS 17 (n := 400) ok rfl ?_
          rw [nI_1]
          exact ih (r + 1) (by omega) τ2 _ _ (by split <;> omega) (t.trans hτ2.1) hτ2.2
  have := loop (rpN F q) 0 (by omega) τ 0 none (by omega) (fW_O fO.refl) hs
  rw [← range_r] at this
  exact this
theorem x_positionRank (hf : fOk F) (hc : cF σ F) (hD : cD σ F bg w n man ps) (hm1 : man ≤ 1) {k : Nat} (hk : k ≤ 7) : mNS g l (d + 7) 100 [.ref 0] k σ (.int (qPos F man (bg && !w) (ps n))) (fun _ σ1 => fW σ σ1) := by
  show mC g l (d + 7) 100 [.ref 0] (SH (lkL k) (exL k)) σ _
  have ok : mOkP md_X8_positionRank := ok_at 100 (by decide) rfl
  refine mC_of (md := md_X8_positionRank) rfl (lt_at (by decide)) rfl ?_
  refine mGo_run (n := 400) ok rfl ?_
  refine mGo_call ok rfl (by omega) (c_presentRank (d := d) hf hc hD hm1 hk) (fun r sp σ2 hq => ?_)
  obtain ⟨rfl, k1, k1a, k1b, rfl, f2, y⟩ := hq
  refine mGo_run (n := 400) ok rfl ?_
  unfold qPos qPr
  by_cases h : (bg && !w) = false
  · rw [if_pos h, if_pos h]
    refine mGo_if ok rfl (fun h1 => ?_) (fun h1 => ?_)
    · exact absurd h1 (by decide)
    · refine mGo_run (n := 400) ok rfl ?_
      exact mGo_ret ok rfl trivial (⟨rfl, k1, k1a, k1b, rfl, fW_O f2⟩)
  · rw [if_neg h, if_neg h]
    by_cases h2 : 300 < (gB F man [ps n]).length
    · rw [if_pos h2, if_pos h2]
      refine mGo_if ok rfl (fun h1 => ?_) (fun h1 => ?_)
      · exact absurd h1 (by decide)
      · refine mGo_run (n := 400) ok rfl ?_
        exact mGo_ret ok rfl trivial (⟨rfl, k1, k1a, k1b, rfl, fW_O f2⟩)
    · rw [if_neg h2, if_neg h2]
      have hle := gR_le (F := F) (mn := man) (i := 0) (show (gB F man [ps n]).length ≤ 300 by omega)
      refine mGo_ifI ok rfl (nI_eq (a := gR F man (gB F man [ps n]) 0) (b := 0) (by omega) (by omega)) (fun h1 => ?_) (fun h1 => ?_)
      · rw [if_pos h1]
        refine mGo_run (n := 400) ok rfl ?_
        exact mGo_ret ok rfl trivial (⟨rfl, k1, k1a, k1b, rfl, fW_O f2⟩)
      · rw [if_neg h1]
        refine mGo_run (n := 400) ok rfl ?_
        exact mGo_ret ok rfl trivial (⟨rfl, k1, k1a, k1b, rfl, fW_O f2⟩)
theorem x_bestMove (hf : fOk F) (hc : cF σ F) (hD : cD σ F bg w n man ps) (hm1 : man ≤ 1) {k : Nat} (hk : k ≤ 7) : mNS g l (d + 7) 101 [.ref 0] k σ (.int (qBest F man (bg && !w) (ps n))) (fun _ σ1 => fW σ σ1) := by
  show mC g l (d + 7) 101 [.ref 0] (SH (lkL k) (exL k)) σ _
  have ok : mOkP md_X8_bestMove := ok_at 101 (by decide) rfl
  refine mC_of (md := md_X8_bestMove) rfl (lt_at (by decide)) rfl ?_
  refine mGo_run (n := 400) ok rfl ?_
  refine mGo_call ok rfl (by omega) (c_presentRank (d := d) hf hc hD hm1 hk) (fun r sp σ2 hq => ?_)
  obtain ⟨rfl, k1, k1a, k1b, rfl, f2, y⟩ := hq
  have t2 := fW_O f2
  refine mGo_run (n := 400) ok rfl ?_
  unfold qBest qPr
  by_cases h : (bg && !w) = false
  · rw [if_pos h, if_pos h]
    refine mGo_if ok rfl (fun h1 => ?_) (fun h1 => ?_)
    · exact absurd h1 (by decide)
    · refine mGo_run (n := 400) ok rfl ?_
      refine mGo_if ok rfl (fun h4 => ?_) (fun h4 => ?_)
      · exact absurd h4 (by decide)
      · refine mGo_run (n := 400) ok rfl ?_
        exact mGo_ret ok rfl trivial (⟨rfl, k1, k1a, k1b, rfl, t2⟩)
  · rw [if_neg h, if_neg h]
    have e : (bg && !w) = true := by simpa using h
    obtain ⟨rfl, rfl⟩ := on_bg e
    by_cases h2 : 300 < (gB F man [ps n]).length
    · rw [if_pos h2, if_pos h2]
      refine mGo_if ok rfl (fun h1 => ?_) (fun h1 => ?_)
      · exact absurd h1 (by decide)
      · refine mGo_run (n := 400) ok rfl ?_
        refine mGo_if ok rfl (fun h4 => ?_) (fun h4 => ?_)
        · exact absurd h4 (by decide)
        · refine mGo_run (n := 400) ok rfl ?_
          exact mGo_ret ok rfl trivial (⟨rfl, k1, k1a, k1b, rfl, t2⟩)
    · rw [if_neg h2, if_neg h2]
      have h3 : (gB F man [ps n]).length ≤ 300 := by omega
      have hle := gR_le (F := F) (mn := man) (i := 0) h3
      have s2 := y e h3
      have hml := mvs_len hf (ps n).1 (ps n).2
      refine mGo_ifI ok rfl (nI_ltI (a := 0) (b := gR F man (gB F man [ps n]) 0) (by omega) (by omega)) (fun h1 => ?_) (fun h1 => ?_)
      · rw [if_neg (by omega)]
        refine mGo_runS 22 (n := 400) ok rfl ?_
        have hvl : ∀ q, mvR F man (gB F man [ps n]) (ps n) q ≤ 301 := fun q => rbA_le _ _ _ (Nat.zero_le _) (fun y hy => by
          obtain ⟨x, hx1, rfl⟩ := List.mem_map.mp hy
          exact gR_le h3)
        have loop : ∀ (rest pre : List (Nat × Nat)), mvs F (ps n).1 (ps n).2 = pre ++ rest → ∀ (τ : mHp) (L3 : Option Value), fW σ τ → sP τ (gB F man [ps n]) (gR F man (gB F man [ps n])) → mGo g l (d + 7) md_X8_bestMove (SH (lkL k) (exL k)).length (mTot (SH (lkL k) (exL k))) (22, [some (.ref 0), some (.int (nI (gR F man (gB F man [ps n]) 0))), some (.int (nI pre.length)), L3], [], SH (lkL k1) (exL k1), τ) (fun r1 sp σ1 => r1 = some (.int (match bstI (gR F man (gB F man [ps n]) 0) pre.length (rest.map (mvR F man (gB F man [ps n]) (ps n))) with
            | some k => nI k
            | none => -5)) ∧ ∃ k1, k ≤ k1 ∧ k1 ≤ 7 ∧ sp = SK k1 ∧ fW σ σ1) := by
          intro rest
          induction rest with
          | nil =>
            intro pre hp τ L3 t s
            obtain ⟨g1, g2, g3, g4, g5⟩ := (t.cd hD).2.2.2 rfl
            rw [List.append_nil] at hp
            have hpl : pre.length ≤ 112 := by rw [← hp]; exact hml
            refine mGo_run (n := 400) ok rfl ?_
            rw [g5.1]
            refine mGo_ifI ok rfl (nI_leI (a := (mvs F (ps n).1 (ps n).2).length) (b := pre.length) (by omega) (by omega)) (fun h5 => ?_) (fun h5 => ?_)
            · refine mGo_run (n := 400) ok rfl ?_
              exact mGo_ret ok rfl trivial (⟨rfl, k1, k1a, k1b, rfl, t⟩)
            · rw [hp] at h5; omega
          | cons q rest ih =>
            intro pre hp τ L3 t s
            obtain ⟨g1, g2, g3, g4, g5⟩ := (t.cd hD).2.2.2 rfl
            have hpl : pre.length < (mvs F (ps n).1 (ps n).2).length := by rw [hp]; simp
            have hat : (mvs F (ps n).1 (ps n).2)[pre.length]? = some q := by rw [hp]; simp
            have hv := hvl q
            refine mGo_run (n := 400) ok rfl ?_
            rw [g5.1]
            refine mGo_ifI ok rfl (nI_leI (a := (mvs F (ps n).1 (ps n).2).length) (b := pre.length) (by omega) (by omega)) (fun h5 => ?_) (fun h5 => ?_)
            · omega
            · refine mGo_run (n := 400) ok rfl ?_
              refine mGo_callR ok rfl (by omega) (c_longestAfter (d := d) (k := k1) hf (t.cf hc) (t.cd hD) hm1 h3 s hat) (fun τ2 hτ2 => ?_)
              have t3 := t.trans hτ2.1
              have next : ∀ L3, ¬ (mvR F man (gB F man [ps n]) (ps n) q ≠ 0 ∧ mvR F man (gB F man [ps n]) (ps n) q ≤ gR F man (gB F man [ps n]) 0) → mGo g l (d + 7) md_X8_bestMove (SH (lkL k) (exL k)).length (mTot (SH (lkL k) (exL k))) (53, [some (.ref 0), some (.int (nI (gR F man (gB F man [ps n]) 0))), some (.int (nI pre.length)), L3], [], SH (lkL k1) (exL k1), τ2) (fun r1 sp σ1 => r1 = some (.int (match bstI (gR F man (gB F man [ps n]) 0) pre.length ((q :: rest).map (mvR F man (gB F man [ps n]) (ps n))) with
                  | some k => nI k
                  | none => -5)) ∧ ∃ k1, k ≤ k1 ∧ k1 ≤ 7 ∧ sp = SK k1 ∧ fW σ σ1) := by
                intro L3 hno
                have eb : bstI (gR F man (gB F man [ps n]) 0) pre.length ((q :: rest).map (mvR F man (gB F man [ps n]) (ps n))) = bstI (gR F man (gB F man [ps n]) 0) (pre.length + 1) (rest.map (mvR F man (gB F man [ps n]) (ps n))) := by
                  show bstI _ _ (mvR F man (gB F man [ps n]) (ps n) q :: _) = _
                  simp only [bstI]
                  rw [if_neg hno]
                rw [eb]
                refine mGo_runS 22 (n := 400) ok rfl ?_
                rw [nI_1]
                have := ih (pre ++ [q]) (by rw [hp]; simp) τ2 L3 t3 hτ2.2
                rw [show (pre ++ [q]).length = pre.length + 1 by simp] at this
                exact this
              refine mGo_run (n := 400) ok rfl ?_
              by_cases h0 : mvR F man (gB F man [ps n]) (ps n) q = 0
              · rw [if_pos h0]
                refine mGo_if ok rfl (fun h6 => ?_) (fun h6 => ?_)
                · exact next _ (fun z => z.1 h0)
                · exact absurd (by decide) h6
              · rw [if_neg h0]
                refine mGo_if ok rfl (fun h6 => ?_) (fun h6 => ?_)
                · exact absurd h6 (nI_pos (by omega))
                · refine mGo_run (n := 400) ok rfl ?_
                  refine mGo_ifI ok rfl (nI_leI (a := gR F man (gB F man [ps n]) 0) (b := mvR F man (gB F man [ps n]) (ps n) q - 1) (by omega) (by omega)) (fun h7 => ?_) (fun h7 => ?_)
                  · exact next _ (fun z => by omega)
                  · refine mGo_run (n := 400) ok rfl ?_
                    exact mGo_ret ok rfl trivial (⟨by simp only [List.map_cons, bstI]; rw [if_pos ⟨h0, by omega⟩], k1, k1a, k1b, rfl, t3⟩)
        exact loop _ [] rfl σ2 none t2 s2
      · have h4 : gR F man (gB F man [ps n]) 0 = 0 := by omega
        rw [if_pos h4, h4]
        refine mGo_run (n := 400) ok rfl ?_
        refine mGo_if ok rfl (fun h5 => ?_) (fun h5 => ?_)
        · refine mGo_run (n := 400) ok rfl ?_
          exact mGo_ret ok rfl trivial (⟨rfl, k1, k1a, k1b, rfl, t2⟩)
        · exact absurd rfl h5
theorem x_hardestReply (hf : fOk F) (hc : cF σ F) (hD : cD σ F bg w n man ps) (hm1 : man ≤ 1) {k : Nat} (hk : k ≤ 7) (m : Int32) : mNS g l (d + 7) 102 [.ref 0, .int m] k σ (.int (qHard F man (bg && !w) (ps n) m)) (fun _ σ1 => fW σ σ1) := by
  show mC g l (d + 7) 102 [.ref 0, .int m] (SH (lkL k) (exL k)) σ _
  have ok : mOkP md_X8_hardestReply := ok_at 102 (by decide) rfl
  refine mC_of (md := md_X8_hardestReply) rfl (lt_at (by decide)) rfl ?_
  refine mGo_run (n := 400) ok rfl ?_
  refine mGo_call ok rfl (by omega) (c_presentRank (d := d) hf hc hD hm1 hk) (fun r sp σ2 hq => ?_)
  obtain ⟨rfl, k1, k1a, k1b, rfl, f2, y⟩ := hq
  have t2 := fW_O f2
  refine mGo_run (n := 400) ok rfl ?_
  unfold qHard qPr
  by_cases h : (bg && !w) = false
  · rw [if_pos h, if_pos h]
    refine mGo_if ok rfl (fun h1 => ?_) (fun h1 => ?_)
    · exact absurd h1 (by decide)
    · refine mGo_run (n := 400) ok rfl ?_
      exact mGo_ret ok rfl trivial (⟨rfl, k1, k1a, k1b, rfl, t2⟩)
  · rw [if_neg h, if_neg h]
    have e : (bg && !w) = true := by simpa using h
    obtain ⟨rfl, rfl⟩ := on_bg e
    by_cases h2 : 300 < (gB F man [ps n]).length
    · rw [if_pos h2, if_pos h2]
      refine mGo_if ok rfl (fun h1 => ?_) (fun h1 => ?_)
      · exact absurd h1 (by decide)
      · refine mGo_run (n := 400) ok rfl ?_
        exact mGo_ret ok rfl trivial (⟨rfl, k1, k1a, k1b, rfl, t2⟩)
    · rw [if_neg h2, if_neg h2]
      have h3 : (gB F man [ps n]).length ≤ 300 := by omega
      have hle := gR_le (F := F) (mn := man) (i := 0) h3
      have s2 := y e h3
      have hml := mvs_len hf (ps n).1 (ps n).2
      obtain ⟨g1, g2, g3, g4, g5⟩ := (t2.cd hD).2.2.2 rfl
      refine mGo_if ok rfl (fun h1 => ?_) (fun h1 => ?_)
      · refine mGo_run (n := 400) ok rfl ?_
        rcases mvA_cases (mvs F (ps n).1 (ps n).2) hml m with ⟨e1, e2⟩ | ⟨i, q, rfl, hi, e1⟩
        · rw [e1]
          refine mGo_callP ok rfl (by omega) (c_repliesTo018 (d := d) g5.1 (by omega) e2) ?_
          refine mGo_run (n := 400) ok rfl ?_
          refine mGo_if ok rfl (fun h4 => ?_) (fun h4 => ?_)
          · refine mGo_run (n := 400) ok rfl ?_
            exact mGo_ret ok rfl trivial (⟨rfl, k1, k1a, k1b, rfl, t2⟩)
          · exact absurd (by decide) h4
        · have ho := mvs_at hf hi
          have hr3 := rpN_le F q
          rw [e1]
          refine mGo_callP ok rfl (by omega) (c_repliesTo18 (d := d) hf (t2.cf hc) g5 (by omega) hi ho) ?_
          refine mGo_runS 33 (n := 400) ok rfl ?_
          have loop : ∀ mm r, r + mm = rpN F q → ∀ (τ : mHp) (hd : Int32) (a : Nat) (L7 : Option Value), a ≤ 300 → fW σ τ → sP τ (gB F man [ps n]) (gR F man (gB F man [ps n])) → mGo g l (d + 7) md_X8_hardestReply (SH (lkL k) (exL k)).length (mTot (SH (lkL k) (exL k))) (33, [some (.ref 0), some (.int (nI i)), some (.int (nI (gR F man (gB F man [ps n]) 0))), some (.int hd), some (.int (nI a)), some (.int (nI (rpN F q))), some (.int (nI r)), L7], [], SH (lkL k1) (exL k1), τ) (fun r1 sp σ1 => r1 = some (.int (hrd r hd a (((List.range' r mm).map (fun r => rpP F man (ps n).1 (ps n).2 q r)).map (fun x => gR F man (gB F man [ps n]) (ix (gB F man [ps n]) x))))) ∧ ∃ k1, k ≤ k1 ∧ k1 ≤ 7 ∧ sp = SK k1 ∧ fW σ σ1) := by
            intro mm
            induction mm with
            | zero =>
              intro r hr τ hd a L7 ha t s
              refine mGo_run (n := 400) ok rfl ?_
              refine mGo_ifI ok rfl (nI_leI (a := rpN F q) (b := r) (by omega) (by omega)) (fun h5 => ?_) (fun h5 => ?_)
              · refine mGo_run (n := 400) ok rfl ?_
                exact mGo_ret ok rfl trivial (⟨rfl, k1, k1a, k1b, rfl, t⟩)
              · omega
            | succ mm ih =>
              intro r hr τ hd a L7 ha t s
              have hRx := gR_le (F := F) (mn := man) (i := ix (gB F man [ps n]) (rpP F man (ps n).1 (ps n).2 q r)) h3
              show mGo _ _ _ _ _ _ _ (fun r1 sp σ1 => r1 = some (.int (if gR F man (gB F man [ps n]) (ix (gB F man [ps n]) (rpP F man (ps n).1 (ps n).2 q r)) = 0 then nI r else if a < gR F man (gB F man [ps n]) (ix (gB F man [ps n]) (rpP F man (ps n).1 (ps n).2 q r)) then hrd (r + 1) (nI r) (gR F man (gB F man [ps n]) (ix (gB F man [ps n]) (rpP F man (ps n).1 (ps n).2 q r))) (((List.range' (r + 1) mm).map (fun r => rpP F man (ps n).1 (ps n).2 q r)).map (fun x => gR F man (gB F man [ps n]) (ix (gB F man [ps n]) x))) else hrd (r + 1) hd a (((List.range' (r + 1) mm).map (fun r => rpP F man (ps n).1 (ps n).2 q r)).map (fun x => gR F man (gB F man [ps n]) (ix (gB F man [ps n]) x))))) ∧ ∃ k1, k ≤ k1 ∧ k1 ≤ 7 ∧ sp = SK k1 ∧ fW σ σ1)
              refine mGo_run (n := 400) ok rfl ?_
              refine mGo_ifI ok rfl (nI_leI (a := rpN F q) (b := r) (by omega) (by omega)) (fun h5 => ?_) (fun h5 => ?_)
              · omega
              · refine mGo_run (n := 400) ok rfl ?_
                refine mGo_callR ok rfl (by omega) (c_rankAfter (d := d) (k := k1) hf (t.cf hc) (t.cd hD) hm1 h3 s hi (r := r) (by omega)) (fun τ2 hτ2 => ?_)
                have t3 := t.trans hτ2.1
                refine mGo_run (n := 400) ok rfl ?_
                refine mGo_ifI ok rfl (nI_eq (a := gR F man (gB F man [ps n]) (ix (gB F man [ps n]) (rpP F man (ps n).1 (ps n).2 q r))) (b := 0) (by omega) (by omega)) (fun h6 => ?_) (fun h6 => ?_)
                · rw [if_pos h6]
                  refine mGo_run (n := 400) ok rfl ?_
                  exact mGo_ret ok rfl trivial (⟨rfl, k1, k1a, k1b, rfl, t3⟩)
                · rw [if_neg h6]
                  refine mGo_run (n := 400) ok rfl ?_
                  refine mGo_ifI ok rfl (nI_leI (a := gR F man (gB F man [ps n]) (ix (gB F man [ps n]) (rpP F man (ps n).1 (ps n).2 q r))) (b := a) (by omega) (by omega)) (fun h7 => ?_) (fun h7 => ?_)
                  · rw [if_neg (by omega)]
                    refine mGo_runS 33 (n := 400) ok rfl ?_
                    rw [nI_1]
                    exact ih (r + 1) (by omega) τ2 _ _ _ ha t3 hτ2.2
                  · rw [if_pos (by omega)]
                    refine mGo_runS 33 (n := 400) ok rfl ?_
                    rw [nI_1]
                    exact ih (r + 1) (by omega) τ2 _ _ _ hRx t3 hτ2.2
          have := loop (rpN F q) 0 (by omega) σ2 (-5) 0 none (by omega) t2 s2
          rw [← range_r] at this
          exact this
      · exact absurd (nI_pos' (by omega)) h1
end T
