/-! the reference: the present position's rank, the best move, the hardest reply -/
/-- the first move that keeps to the rank -/
def bstI (R0 : Nat) : Nat → List Nat → Option Nat
  | _, [] => none
  | k, v :: t => if v ≠ 0 ∧ v ≤ R0 then some k else bstI R0 (k + 1) t
def hrd : Nat → Int32 → Nat → List Nat → Int32
  | _, h, _, [] => h
  | r, h, a, x :: t => if x = 0 then nI r else if a < x then hrd (r + 1) (nI r) x t else hrd (r + 1) h a t
section Q
variable (F : aF) (man : Nat)
/-- what a move's replies come to -/
def mvR (P : List aP) (p : aP) (q : Nat × Nat) : Nat := rbA 0 ((rps F man p q).map (fun x => gR F man P (ix P x)))
def qPos (on : Bool) (p : aP) : Int32 := if on = false then -7 else if 300 < (gB F man [p]).length then -6 else if gR F man (gB F man [p]) 0 = 0 then -5 else nI (gR F man (gB F man [p]) 0)
def qBest (on : Bool) (p : aP) : Int32 := if on = false then -7 else if 300 < (gB F man [p]).length then -6 else if gR F man (gB F man [p]) 0 = 0 then -5 else match bstI (gR F man (gB F man [p]) 0) 0 ((mvs F p.1 p.2).map (mvR F man (gB F man [p]) p)) with
  | some k => nI k
  | none => -5
def qHard (on : Bool) (p : aP) (m : Int32) : Int32 := if on = false then -7 else if 300 < (gB F man [p]).length then -6 else match mvA (mvs F p.1 p.2) m with
  | none => -5
  | some q => hrd 0 (-5) 0 ((rps F man p q).map (fun x => gR F man (gB F man [p]) (ix (gB F man [p]) x)))
end Q
theorem gB_0 {F : aF} {man : Nat} (p : aP) : (gB F man [p])[0]? = some p := (gB_pfx (F := F) (man := man) [p]).at rfl
theorem gB_at0 {F : aF} {man : Nat} (p : aP) : at0 (gB F man [p]) 0 = p := by unfold at0; rw [gB_0]; rfl
theorem nd_1 (p : aP) : nd [p] := fun i j q hi hj => by
  have a := (List.getElem?_eq_some_iff.mp hi).1
  have b := (List.getElem?_eq_some_iff.mp hj).1
  simp at a b
  omega
section T
variable {g : mG} {l : Launch} {d : Nat} {lk : Nat} {ex : mSh} {σ : mHp} {F : aF} {P : List aP} {bg w : Bool} {k man : Nat} {ps : Nat → Int64 × Int64}
theorem m_rankNow (hf : fOk F) (hm : mF σ F) (hD : rD σ true w k man ps) (hk : k ≤ 20) (hm1 : man ≤ 1) : mNR g l (d + 4) 181 [.ref 48] lk ex σ (.int (bI (decide ((gB F man [ps k]).length ≤ 300)))) (fun σ1 => frS σ σ1 ∧ ((gB F man [ps k]).length ≤ 300 → sM σ1 (gB F man [ps k]) (gR F man (gB F man [ps k])))) := by
  have hman := (hD.2 rfl).2.2.1
  have ok : mOkP md_X9_rankNow := ok_at 181 (by decide) rfl
  refine mC_of (md := md_X9_rankNow) rfl (lt_at (by decide)) rfl ?_
  refine mGo_run (n := 400) ok rfl ?_
  refine mGo_callV ok rfl (by omega) (m_now (d := d) hD hk) (fun τ1 hτ1 => ?_)
  refine mGo_run (n := 400) ok rfl ?_
  have t1 : frS σ (mWI τ1 48 23 0) := by rw [hτ1]; exact ⟨(frS_now _ _).1.WI (by decide), (frS_now _ _).2.WI (fun _ => by decide)⟩
  have q1 : mQ (mWI τ1 48 23 0) (ps k).1 (ps k).2 := by rw [hτ1]; exact ⟨by show (mWL (mWL σ 48 15 (ps k).1) 48 16 (ps k).2).2.1 48 15 = _; simp [WL_at], by show (mWL (mWL σ 48 15 (ps k).1) 48 16 (ps k).2).2.1 48 16 = _; simp [WL_at]⟩
  have s1 : sM (mWI τ1 48 23 0) [] (fun _ => 0) := ⟨by rw [WI_at, if_pos ⟨rfl, rfl⟩]; rfl, fun i p hp => by simp at hp⟩
  clear hτ1
  refine mGo_callV ok rfl (by omega) (m_meet (d := d) s1 nd_nil (by simp) q1) (fun τ2 hτ2 => ?_)
  have e1 : addP [] (ps k) = [ps k] := by simp [addP]
  rw [e1] at hτ2
  have t2 := t1.trans hτ2.1
  refine mGo_run (n := 400) ok rfl ?_
  refine mGo_callR ok rfl (by omega) (m_meetAll (d := d) hf (t2.mF hm) (t2.mn hman) hm1 hτ2.2.2 (nd_1 _) (by simp)) (fun τ3 hτ3 => ?_)
  have t3 := t2.trans hτ3.1
  refine mGo_run (n := 400) ok rfl ?_
  show mGo _ _ _ _ _ _ _ (fun r sp σ1 => r = some (.int (bI (decide ((bfs F man 302 0 [ps k]).length ≤ 300)))) ∧ sp = SH lk ex ∧ (frS σ σ1 ∧ ((bfs F man 302 0 [ps k]).length ≤ 300 → sM σ1 (bfs F man 302 0 [ps k]) (gR F man (bfs F man 302 0 [ps k])))))
  refine mGo_ifI ok rfl (bI_0) (fun h => ?_) (fun h => ?_)
  · have h3 : ¬ (bfs F man 302 0 [ps k]).length ≤ 300 := of_decide_eq_false h
    refine mGo_run (n := 400) ok rfl ?_
    exact mGo_ret ok rfl (bI_b _) (⟨rfl, rfl, t3, fun z => absurd z h3⟩)
  · have h3 : (bfs F man 302 0 [ps k]).length ≤ 300 := by simpa using h
    refine mGo_run (n := 400) ok rfl ?_
    refine mGo_callV ok rfl (by omega) (m_rankAll (d := d) hf (t3.mF hm) (t3.mn hman) hm1 hτ3.2 (gB_nd (nd_1 _)) h3 (gB_clo (P := [ps k]) (by simp) h3)) (fun τ4 hτ4 => ?_)
    refine mGo_run (n := 400) ok rfl ?_
    exact mGo_ret ok rfl (bI_b _) (⟨rfl, rfl, t3.trans hτ4.1, fun _ => hτ4.2⟩)
theorem gR_le {F : aF} {mn : Nat} {P : List aP} {i : Nat} (h : P.length ≤ 300) : gR F mn P i ≤ 300 := by
  have := rk_le (F := F) (man := mn) (P := P) P.length i
  unfold gR
  omega
theorem y_positionRank (hf : fOk F) (hm : mF σ F) (hD : rD σ bg w k man ps) (hk : k ≤ 20) (hm1 : man ≤ 1) : mNR g l (d + 5) 182 [.ref 48] lk ex σ (.int (qPos F man (bg && !w) (ps k))) (frS σ) := by
  have ok : mOkP md_X9_positionRank := ok_at 182 (by decide) rfl
  refine mC_of (md := md_X9_positionRank) rfl (lt_at (by decide)) rfl ?_
  unfold qPos
  refine mGo_run (n := 400) ok rfl ?_
  refine mGo_callP ok rfl (by omega) (m_isPlaying (d := d) hD) ?_
  refine mGo_ifI ok rfl (bI_0) (fun h => ?_) (fun h => ?_)
  · rw [if_pos h]
    refine mGo_run (n := 400) ok rfl ?_
    exact mGo_ret ok rfl trivial (⟨rfl, rfl, frS.refl⟩)
  · have e : (bg && !w) = true := by simpa using h
    obtain ⟨rfl, rfl⟩ := on_bg e
    rw [if_neg h]
    refine mGo_run (n := 400) ok rfl ?_
    refine mGo_callR ok rfl (by omega) (m_rankNow (d := d) hf hm hD hk hm1) (fun τ1 hτ1 => ?_)
    refine mGo_ifI ok rfl (bI_0) (fun h1 => ?_) (fun h1 => ?_)
    · have h3 : ¬ (gB F man [ps k]).length ≤ 300 := of_decide_eq_false h1
      rw [if_pos (by omega)]
      refine mGo_run (n := 400) ok rfl ?_
      exact mGo_ret ok rfl trivial (⟨rfl, rfl, hτ1.1⟩)
    · have h3 : (gB F man [ps k]).length ≤ 300 := by simpa using h1
      have r1 := ((hτ1.2 h3).2 0 _ (gB_0 (ps k))).2.2
      have hle := gR_le (F := F) (mn := man) (i := 0) h3
      rw [if_neg (by omega)]
      refine mGo_run (n := 400) ok rfl ?_
      refine mGo_side ok rfl (nI_in (c := 0) (by omega) (by omega)) ?_
      rw [show (0 : Int32).toNatClampNeg = 0 from rfl, r1]
      refine mGo_ifI ok rfl (nI_eq (a := gR F man (gB F man [ps k]) 0) (b := 0) (by omega) (by omega)) (fun h4 => ?_) (fun h4 => ?_)
      · refine mGo_run (n := 400) ok rfl ?_
        exact mGo_ret ok rfl trivial (⟨by rw [if_pos h4], rfl, hτ1.1⟩)
      · refine mGo_run (n := 400) ok rfl ?_
        refine mGo_side ok rfl (nI_in (c := 0) (by omega) (by omega)) ?_
        rw [show (0 : Int32).toNatClampNeg = 0 from rfl, r1]
        refine mGo_run (n := 400) ok rfl ?_
        exact mGo_ret ok rfl trivial (⟨by rw [if_neg h4], rfl, hτ1.1⟩)
/-- the best move is there -/
theorem bst_ex {F : aF} {mn : Nat} {P : List aP} {p : aP} (h0 : P[0]? = some p) (hr : gR F mn P 0 ≠ 0) : ∃ q ∈ mvs F p.1 p.2, mvR F mn P p q ≠ 0 ∧ mvR F mn P p q ≤ gR F mn P 0 := by
  have e : at0 P 0 = p := by unfold at0; rw [h0]; rfl
  obtain ⟨q, hq, hx⟩ := rk_mv P.length 0 hr
  rw [e] at hq hx
  refine ⟨q, hq, ?_, ?_⟩
  · intro z
    obtain ⟨x, hx1, hx2⟩ := List.mem_map.mp ((rbA_0 _ _).mp z)
    have := hx x hx1
    have hx2 : rk F mn P P.length (ix P x) = 0 := hx2
    omega
  · have := rbA_le ((rps F mn p q).map (fun x => gR F mn P (ix P x))) 0 (gR F mn P 0 - 1) (Nat.zero_le _) (fun y hy => by
      obtain ⟨x, hx1, rfl⟩ := List.mem_map.mp hy
      have h1 := hx x hx1
      show rk F mn P P.length (ix P x) ≤ rk F mn P P.length 0 - 1
      omega)
    unfold mvR
    omega
theorem y_bestMove (hf : fOk F) (hm : mF σ F) (hD : rD σ bg w k man ps) (hk : k ≤ 20) (hm1 : man ≤ 1) : mNR g l (d + 5) 183 [.ref 48] lk ex σ (.int (qBest F man (bg && !w) (ps k))) (frS σ) := by
  have ok : mOkP md_X9_bestMove := ok_at 183 (by decide) rfl
  refine mC_of (md := md_X9_bestMove) rfl (lt_at (by decide)) rfl ?_
  unfold qBest
  refine mGo_run (n := 400) ok rfl ?_
  refine mGo_callP ok rfl (by omega) (m_isPlaying (d := d) hD) ?_
  refine mGo_ifI ok rfl (bI_0) (fun h => ?_) (fun h => ?_)
  · rw [if_pos h]
    refine mGo_run (n := 400) ok rfl ?_
    exact mGo_ret ok rfl trivial (⟨rfl, rfl, frS.refl⟩)
  · have e : (bg && !w) = true := by simpa using h
    obtain ⟨rfl, rfl⟩ := on_bg e
    have hman := (hD.2 rfl).2.2.1
    rw [if_neg h]
    refine mGo_run (n := 400) ok rfl ?_
    refine mGo_callR ok rfl (by omega) (m_rankNow (d := d) hf hm hD hk hm1) (fun τ1 hτ1 => ?_)
    refine mGo_ifI ok rfl (bI_0) (fun h1 => ?_) (fun h1 => ?_)
    · have h3 : ¬ (gB F man [ps k]).length ≤ 300 := of_decide_eq_false h1
      rw [if_pos (by omega)]
      refine mGo_run (n := 400) ok rfl ?_
      exact mGo_ret ok rfl trivial (⟨rfl, rfl, hτ1.1⟩)
    · have h3 : (gB F man [ps k]).length ≤ 300 := by simpa using h1
      have r1 := ((hτ1.2 h3).2 0 _ (gB_0 (ps k))).2.2
      have hle := gR_le (F := F) (mn := man) (i := 0) h3
      have hcl := gB_clo (F := F) (man := man) (P := [ps k]) (by simp) h3
      have h0l : 0 < (gB F man [ps k]).length := (List.getElem?_eq_some_iff.mp (gB_0 (ps k))).1
      have hml := mvs_len hf (ps k).1 (ps k).2
      rw [if_neg (by omega)]
      refine mGo_run (n := 400) ok rfl ?_
      refine mGo_side ok rfl (nI_in (c := 0) (by omega) (by omega)) ?_
      rw [show (0 : Int32).toNatClampNeg = 0 from rfl, r1]
      refine mGo_ifI ok rfl (nI_eq (a := gR F man (gB F man [ps k]) 0) (b := 0) (by omega) (by omega)) (fun h4 => ?_) (fun h4 => ?_)
      · refine mGo_run (n := 400) ok rfl ?_
        exact mGo_ret ok rfl trivial (⟨by rw [if_pos h4], rfl, hτ1.1⟩)
      · rw [if_neg h4]
        have step : ∀ (τ : mHp) (j : Nat) (q : Nat × Nat), frS σ τ → sM τ (gB F man [ps k]) (gR F man (gB F man [ps k])) → (mvs F (ps k).1 (ps k).2)[j]? = some q → mNR g l (d + 2) 162 [.ref 48, .int (nI 0), .int (nI j)] lk ex τ (.int (nI (mvR F man (gB F man [ps k]) (ps k) q))) (frL τ) := by
          intro τ j q t s hj
          have := m_rankBy (g := g) (l := l) (d := d) (lk := lk) (ex := ex) hf (t.mF hm) (t.mn hman) hm1 s (gB_nd (nd_1 _)) (by omega) (fun i _ => by have := gR_le (F := F) (mn := man) (i := i) h3; omega) h0l (hcl 0 h0l) (k := j) (q := q) (by rw [gB_at0]; exact hj)
          rw [gB_at0] at this
          exact this
        obtain ⟨q0, hq0, hb1, hb2⟩ := bst_ex (F := F) (mn := man) (gB_0 (ps k)) h4
        have hvl : ∀ q, mvR F man (gB F man [ps k]) (ps k) q ≤ 301 := fun q => rbA_le _ _ _ (Nat.zero_le _) (fun y hy => by
          obtain ⟨x, hx1, rfl⟩ := List.mem_map.mp hy
          exact gR_le h3)
        have loop : ∀ (rest pre : List (Nat × Nat)) (q : Nat × Nat), mvs F (ps k).1 (ps k).2 = pre ++ q :: rest → q0 ∈ q :: rest → ∀ (τ : mHp), frS σ τ → sM τ (gB F man [ps k]) (gR F man (gB F man [ps k])) → mGo g l (d + 5) md_X9_bestMove (SH lk ex).length (mTot (SH lk ex)) (41, [some (.ref 48), some (.int (nI pre.length)), some (.int (nI (mvR F man (gB F man [ps k]) (ps k) q)))], [], SH lk ex, τ) (fun r1 sp σ1 => r1 = some (.int (match bstI (gR F man (gB F man [ps k]) 0) pre.length ((q :: rest).map (mvR F man (gB F man [ps k]) (ps k))) with
            | some k => nI k
            | none => -5)) ∧ sp = SH lk ex ∧ frS σ σ1) := by
          intro rest
          induction rest with
          | nil =>
            intro pre q hp hin τ t s
            have eq : q0 = q := by simpa using hin
            subst eq
            have r2 := (s.2 0 _ (gB_0 (ps k))).2.2
            have hv := hvl q0
            have hpl : pre.length < 112 := by have := congrArg List.length hp; simp at this; omega
            refine mGo_run (n := 400) ok rfl ?_
            refine mGo_ifI ok rfl (nI_eq (a := mvR F man (gB F man [ps k]) (ps k) q0) (b := 0) (by omega) (by omega)) (fun h5 => ?_) (fun h5 => ?_)
            · exact absurd h5 hb1
            · refine mGo_run (n := 400) ok rfl ?_
              refine mGo_side ok rfl (nI_in (c := 0) (by omega) (by omega)) ?_
              rw [show (0 : Int32).toNatClampNeg = 0 from rfl, r2]
              refine mGo_ifI ok rfl (nI_leI (a := mvR F man (gB F man [ps k]) (ps k) q0) (b := gR F man (gB F man [ps k]) 0) (by omega) (by omega)) (fun h6 => ?_) (fun h6 => ?_)
              · refine mGo_run (n := 400) ok rfl ?_
                exact mGo_ret ok rfl trivial (⟨by simp only [List.map_cons, bstI]; rw [if_pos ⟨h5, h6⟩], rfl, t⟩)
              · omega
          | cons q1 rest ih =>
            intro pre q hp hin τ t s
            have r2 := (s.2 0 _ (gB_0 (ps k))).2.2
            have hv := hvl q
            have hpl : pre.length < 112 := by have := congrArg List.length hp; simp at this; omega
            have next : ¬ (mvR F man (gB F man [ps k]) (ps k) q ≠ 0 ∧ mvR F man (gB F man [ps k]) (ps k) q ≤ gR F man (gB F man [ps k]) 0) → mGo g l (d + 5) md_X9_bestMove (SH lk ex).length (mTot (SH lk ex)) (55, [some (.ref 48), some (.int (nI pre.length)), some (.int (nI (mvR F man (gB F man [ps k]) (ps k) q)))], [], SH lk ex, τ) (fun r1 sp σ1 => r1 = some (.int (match bstI (gR F man (gB F man [ps k]) 0) pre.length ((q :: q1 :: rest).map (mvR F man (gB F man [ps k]) (ps k))) with
                | some k => nI k
                | none => -5)) ∧ sp = SH lk ex ∧ frS σ σ1) := by
              intro hno
              have hin2 : q0 ∈ q1 :: rest := by
                rcases List.mem_cons.mp hin with z | z
                · subst z; exact absurd ⟨hb1, hb2⟩ hno
                · exact z
              have hp2 : mvs F (ps k).1 (ps k).2 = (pre ++ [q]) ++ q1 :: rest := by rw [hp]; simp
              have hat : (mvs F (ps k).1 (ps k).2)[pre.length + 1]? = some q1 := by
                rw [hp2, show pre.length + 1 = (pre ++ [q]).length by simp]
                rw [List.getElem?_append_right (Nat.le_refl _)]
                simp
              rw [show bstI (gR F man (gB F man [ps k]) 0) pre.length ((q :: q1 :: rest).map (mvR F man (gB F man [ps k]) (ps k))) = bstI (gR F man (gB F man [ps k]) 0) (pre.length + 1) ((q1 :: rest).map (mvR F man (gB F man [ps k]) (ps k))) by
                show bstI _ _ (mvR F man (gB F man [ps k]) (ps k) q :: _) = _
                simp only [bstI]
                rw [if_neg hno]]
              refine mGo_run (n := 400) ok rfl ?_
              rw [nI_1]
              refine mGo_callR ok rfl (by omega) (step τ (pre.length + 1) q1 t s hat) (fun τ2 hτ2 => ?_)
              refine mGo_runS 41 (n := 400) ok rfl ?_
              have := ih (pre ++ [q]) q1 hp2 hin2 τ2 (t.trans (frS_L hτ2)) (sM_L hτ2.1 hτ2.2 s)
              rw [show (pre ++ [q]).length = pre.length + 1 by simp] at this
              exact this
            refine mGo_run (n := 400) ok rfl ?_
            refine mGo_ifI ok rfl (nI_eq (a := mvR F man (gB F man [ps k]) (ps k) q) (b := 0) (by omega) (by omega)) (fun h5 => ?_) (fun h5 => ?_)
            · exact next (fun z => z.1 h5)
            · refine mGo_run (n := 400) ok rfl ?_
              refine mGo_side ok rfl (nI_in (c := 0) (by omega) (by omega)) ?_
              rw [show (0 : Int32).toNatClampNeg = 0 from rfl, r2]
              refine mGo_ifI ok rfl (nI_leI (a := mvR F man (gB F man [ps k]) (ps k) q) (b := gR F man (gB F man [ps k]) 0) (by omega) (by omega)) (fun h6 => ?_) (fun h6 => ?_)
              · refine mGo_run (n := 400) ok rfl ?_
                exact mGo_ret ok rfl trivial (⟨by simp only [List.map_cons, bstI]; rw [if_pos ⟨h5, h6⟩], rfl, t⟩)
              · exact next (fun z => h6 z.2)
        cases hms : mvs F (ps k).1 (ps k).2 with
        | nil => rw [hms] at hq0; simp at hq0
        | cons q rest =>
          refine mGo_run (n := 400) ok rfl ?_
          refine mGo_callR ok rfl (by omega) (step τ1 0 q hτ1.1 (hτ1.2 h3) (by rw [hms]; rfl)) (fun τ2 hτ2 => ?_)
          refine mGo_runS 41 (n := 400) ok rfl ?_
          exact loop rest [] q (by rw [hms]; rfl) (by rw [← hms]; exact hq0) τ2 (hτ1.1.trans (frS_L hτ2)) (sM_L hτ2.1 hτ2.2 (hτ1.2 h3))
theorem y_hardestReply (hf : fOk F) (hm : mF σ F) (hD : rD σ bg w k man ps) (hk : k ≤ 20) (hm1 : man ≤ 1) (m : Int32) : mNR g l (d + 5) 184 [.ref 48, .int m] lk ex σ (.int (qHard F man (bg && !w) (ps k) m)) (frS σ) := by
  have ok : mOkP md_X9_hardestReply := ok_at 184 (by decide) rfl
  refine mC_of (md := md_X9_hardestReply) rfl (lt_at (by decide)) rfl ?_
  unfold qHard
  refine mGo_run (n := 400) ok rfl ?_
  refine mGo_callP ok rfl (by omega) (m_isPlaying (d := d) hD) ?_
  refine mGo_ifI ok rfl (bI_0) (fun h => ?_) (fun h => ?_)
  · rw [if_pos h]
    refine mGo_run (n := 400) ok rfl ?_
    exact mGo_ret ok rfl trivial (⟨rfl, rfl, frS.refl⟩)
  · have e : (bg && !w) = true := by simpa using h
    obtain ⟨rfl, rfl⟩ := on_bg e
    have hman := (hD.2 rfl).2.2.1
    rw [if_neg h]
    refine mGo_run (n := 400) ok rfl ?_
    refine mGo_callR ok rfl (by omega) (m_rankNow (d := d) hf hm hD hk hm1) (fun τ1 hτ1 => ?_)
    refine mGo_ifI ok rfl (bI_0) (fun h1 => ?_) (fun h1 => ?_)
    · have h3 : ¬ (gB F man [ps k]).length ≤ 300 := of_decide_eq_false h1
      rw [if_pos (by omega)]
      refine mGo_run (n := 400) ok rfl ?_
      exact mGo_ret ok rfl trivial (⟨rfl, rfl, hτ1.1⟩)
    · have h3 : (gB F man [ps k]).length ≤ 300 := by simpa using h1
      have hcl := gB_clo (F := F) (man := man) (P := [ps k]) (by simp) h3
      have h0l : 0 < (gB F man [ps k]).length := (List.getElem?_eq_some_iff.mp (gB_0 (ps k))).1
      have hcl := hcl 0 h0l
      rw [gB_at0] at hcl
      have hml := mvs_len hf (ps k).1 (ps k).2
      rw [if_neg (by omega)]
      refine mGo_run (n := 400) ok rfl ?_
      have hD1 : rD τ1 true false k man ps := by
        obtain ⟨d1, d2⟩ := hD
        refine ⟨by rw [(hτ1.1.2 24 (by decide)).1]; exact d1, fun z => ?_⟩
        obtain ⟨g1, g2, g3, g4⟩ := d2 z
        exact ⟨by rw [(hτ1.1.2 25 (by decide)).1]; exact g1, by rw [(hτ1.1.2 26 (by decide)).1]; exact g2, by rw [(hτ1.1.2 17 (by decide)).1]; exact g3, fun i hi => by rw [(hτ1.1.1 60 (by decide)).2.1, (hτ1.1.1 61 (by decide)).2.1]; exact g4 i hi⟩
      refine mGo_callV ok rfl (by omega) (m_now (d := d) hD1 hk) (fun τ2 hτ2 => ?_)
      have t2 : frS σ τ2 := by rw [hτ2]; exact hτ1.1.trans (frS_now _ _)
      have s2 : sM τ2 (gB F man [ps k]) (gR F man (gB F man [ps k])) := by rw [hτ2]; exact sM_now _ _ (hτ1.2 h3)
      have q2 : mQ τ2 (ps k).1 (ps k).2 := by rw [hτ2]; exact ⟨by simp [WL_at], by simp [WL_at]⟩
      clear hτ2
      refine mGo_run (n := 400) ok rfl ?_
      rcases mvA_cases (mvs F (ps k).1 (ps k).2) hml m with ⟨e1, e2⟩ | ⟨i, q, rfl, hi, e1⟩
      · refine mGo_callP ok rfl (by omega) (m_isMove0 (d := d) hf (t2.mF hm) q2 e2) ?_
        refine mGo_if ok rfl (fun h4 => ?_) (fun h4 => ?_)
        · refine mGo_run (n := 400) ok rfl ?_
          exact mGo_ret ok rfl trivial (⟨by rw [e1], rfl, t2⟩)
        · exact absurd rfl h4
      · have ho := mvs_at hf hi
        have hr3 := rpN_le F q
        have hmem := List.mem_of_getElem? hi
        rw [e1]
        refine mGo_callR ok rfl (by omega) (m_isMove1 (d := d) hf (t2.mF hm) q2 hi) (fun τ3 hτ3 => ?_)
        have t3 : frS σ τ3 := by rw [hτ3]; exact t2.trans (frS_L (frL_mv _ _))
        have s3 : sM τ3 (gB F man [ps k]) (gR F man (gB F man [ps k])) := by rw [hτ3]; exact sM_L (frL_mv _ _).1 (frL_mv _ _).2 s2
        have v3 : mV τ3 q := by rw [hτ3]; exact mV_mk q
        clear hτ3
        refine mGo_if ok rfl (fun h4 => ?_) (fun h4 => ?_)
        · exact absurd h4 (by decide)
        refine mGo_run (n := 400) ok rfl ?_
        refine mGo_callP ok rfl (by omega) (m_countReplies (d := d) hf (t3.mF hm) v3 ho) ?_
        refine mGo_runS 49 (n := 400) ok rfl ?_
        have loop : ∀ mm r, r + mm = rpN F q → ∀ (τ : mHp) (hd : Int32) (a : Nat) (L6 : Option Value), a ≤ 300 → frS σ τ → sM τ (gB F man [ps k]) (gR F man (gB F man [ps k])) → mV τ q → mGo g l (d + 5) md_X9_hardestReply (SH lk ex).length (mTot (SH lk ex)) (49, [some (.ref 48), some (.int (nI i)), some (.int (nI (rpN F q))), some (.int hd), some (.int (nI a)), some (.int (nI r)), L6], [], SH lk ex, τ) (fun r1 sp σ1 => r1 = some (.int (hrd r hd a (((List.range' r mm).map (fun r => rpP F man (ps k).1 (ps k).2 q r)).map (fun x => gR F man (gB F man [ps k]) (ix (gB F man [ps k]) x))))) ∧ sp = SH lk ex ∧ frS σ σ1) := by
          intro mm
          induction mm with
          | zero =>
            intro r hr τ hd a L6 ha t s v
            refine mGo_run (n := 400) ok rfl ?_
            refine mGo_ifI ok rfl (nI_leI (a := rpN F q) (b := r) (by omega) (by omega)) (fun h5 => ?_) (fun h5 => ?_)
            · refine mGo_run (n := 400) ok rfl ?_
              exact mGo_ret ok rfl trivial (⟨rfl, rfl, t⟩)
            · omega
          | succ mm ih =>
            intro r hr τ hd a L6 ha t s v
            have hx : rpP F man (ps k).1 (ps k).2 q r ∈ gB F man [ps k] := hcl q hmem _ (List.mem_map.mpr ⟨r, List.mem_range.mpr (by omega), rfl⟩)
            have hxl := ix_lt hx
            have hRx := gR_le (F := F) (mn := man) (i := ix (gB F man [ps k]) (rpP F man (ps k).1 (ps k).2 q r)) h3
            refine mGo_run (n := 400) ok rfl ?_
            refine mGo_ifI ok rfl (nI_leI (a := rpN F q) (b := r) (by omega) (by omega)) (fun h5 => ?_) (fun h5 => ?_)
            · omega
            · refine mGo_run (n := 400) ok rfl ?_
              refine mGo_callV ok rfl (by omega) (m_stand (d := d) (i := 0) s (by omega) h0l) (fun τ4 hτ4 => ?_)
              rw [gB_at0] at hτ4
              have t4 : frS σ τ4 := by rw [hτ4]; exact t.trans (frS_now _ _)
              have s4 : sM τ4 (gB F man [ps k]) (gR F man (gB F man [ps k])) := by rw [hτ4]; exact sM_now _ _ s
              have q4 : mQ τ4 (ps k).1 (ps k).2 := by rw [hτ4]; exact ⟨by simp [WL_at], by simp [WL_at]⟩
              have v4 : mV τ4 q := by rw [hτ4]; exact v
              clear hτ4
              refine mGo_run (n := 400) ok rfl ?_
              refine mGo_callV ok rfl (by omega) (m_reply (d := d) hf (t4.mF hm) q4 (t4.mn hman) hm1 v4 ho (r := r) (by omega)) (fun τ5 hτ5 => ?_)
              have t5 : frS σ τ5 := t4.trans (frS_48 hτ5.1 hτ5.2.1 (by decide))
              have s5 := sM_L hτ5.1 (hτ5.2.1.wide (by decide)) s4
              have v5 : mV τ5 q := ⟨by rw [(hτ5.2.1 18 (by decide)).1]; exact v4.1, by rw [(hτ5.2.1 19 (by decide)).1]; exact v4.2⟩
              have r5 := (s5.2 _ _ (ix_at hx)).2.2
              refine mGo_run (n := 400) ok rfl ?_
              rw [hτ5.2.2.1, hτ5.2.2.2]
              refine mGo_callP ok rfl (by omega) (m_placeOf (d := d) s5 (gB_nd (nd_1 _)) (by omega) (rpP F man (ps k).1 (ps k).2 q r)) ?_
              rw [if_pos hx]
              refine mGo_side ok rfl (nI_in (by omega) (by omega)) ?_
              rw [nI_clamp (n := ix (gB F man [ps k]) (rpP F man (ps k).1 (ps k).2 q r)) (by omega), r5]
              refine mGo_run (n := 400) ok rfl ?_
              show mGo _ _ _ _ _ _ _ (fun r1 sp σ1 => r1 = some (.int (if gR F man (gB F man [ps k]) (ix (gB F man [ps k]) (rpP F man (ps k).1 (ps k).2 q r)) = 0 then nI r else if a < gR F man (gB F man [ps k]) (ix (gB F man [ps k]) (rpP F man (ps k).1 (ps k).2 q r)) then hrd (r + 1) (nI r) (gR F man (gB F man [ps k]) (ix (gB F man [ps k]) (rpP F man (ps k).1 (ps k).2 q r))) (((List.range' (r + 1) mm).map (fun r => rpP F man (ps k).1 (ps k).2 q r)).map (fun x => gR F man (gB F man [ps k]) (ix (gB F man [ps k]) x))) else hrd (r + 1) hd a (((List.range' (r + 1) mm).map (fun r => rpP F man (ps k).1 (ps k).2 q r)).map (fun x => gR F man (gB F man [ps k]) (ix (gB F man [ps k]) x))))) ∧ sp = SH lk ex ∧ frS σ σ1)
              refine mGo_ifI ok rfl (nI_eq (a := gR F man (gB F man [ps k]) (ix (gB F man [ps k]) (rpP F man (ps k).1 (ps k).2 q r))) (b := 0) (by omega) (by omega)) (fun h6 => ?_) (fun h6 => ?_)
              · rw [if_pos h6]
                refine mGo_run (n := 400) ok rfl ?_
                exact mGo_ret ok rfl trivial (⟨rfl, rfl, t5⟩)
              · rw [if_neg h6]
                refine mGo_run (n := 400) ok rfl ?_
                refine mGo_ifI ok rfl (nI_leI (a := gR F man (gB F man [ps k]) (ix (gB F man [ps k]) (rpP F man (ps k).1 (ps k).2 q r))) (b := a) (by omega) (by omega)) (fun h7 => ?_) (fun h7 => ?_)
                · rw [if_neg (by omega)]
                  refine mGo_runS 49 (n := 400) ok rfl ?_
                  rw [nI_1]
                  exact ih (r + 1) (by omega) τ5 _ _ _ ha t5 s5 v5
                · rw [if_pos (by omega)]
                  refine mGo_runS 49 (n := 400) ok rfl ?_
                  rw [nI_1]
                  exact ih (r + 1) (by omega) τ5 _ _ _ hRx t5 s5 v5
        have := loop (rpN F q) 0 (by omega) τ3 (-5) 0 none (by omega) t3 s3 v3
        rw [← range_r] at this
        exact this
end T
