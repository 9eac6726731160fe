/-! the class: rank, positionCount, manners -/
def mNS (g : mG) (l : Launch) (d a : Nat) (as : List Value) (k : Nat) (σ : mHp) (v : Value) (P : Nat → mHp → Prop) : Prop := mC g l d a as (SK k) σ (fun r sp σ1 => r = some v ∧ ∃ k1, k ≤ k1 ∧ k1 ≤ 7 ∧ sp = SK k1 ∧ P k1 σ1)
theorem start_eq {t : List aP} (ht : t.length ≤ 2) {B : List aP} (hB : pfx (meets [] t) B) (hn : nd B) (R : Nat → Nat) : rbA 0 (t.map (fun x => R (ix B x))) = rbA 0 ((List.range (meets [] t).length).map R) := by
  match t, ht with
  | [], _ => rfl
  | [a], _ =>
    have e : meets [] [a] = [a] := by simp [meets, addP]
    rw [e] at hB ⊢
    have h0 : ix B a = 0 := ix_of hn (hB.at rfl)
    simp [h0, List.range_succ]
  | [a, b], _ =>
    by_cases hab : b = a
    · have e : meets [] [a, b] = [a] := by simp [meets, addP, hab]
      rw [e] at hB ⊢
      have h0 : ix B a = 0 := ix_of hn (hB.at rfl)
      subst hab
      simp only [List.map_cons, List.map_nil, h0, List.length_singleton, List.range_succ, List.range_zero, List.nil_append, rbA]
      by_cases z : R 0 = 0
      · simp [z]
      · simp [z, show 0 < R 0 by omega]
    · have e : meets [] [a, b] = [a, b] := by
        have e1 : addP [] a = [a] := by simp [addP]
        have e2 : addP [a] b = [a, b] := by unfold addP; rw [if_neg (by simpa using hab), if_pos (by simp)]; rfl
        show addP (addP [] a) b = [a, b]
        rw [e1, e2]
      rw [e] at hB ⊢
      have h0 : ix B a = 0 := ix_of hn (hB.at rfl)
      have h1 : ix B b = 1 := ix_of hn (hB.at rfl)
      simp [h0, h1, List.range_succ]
  | a :: b :: c :: t, h => simp at h
section T
variable {g : mG} {l : Launch} {d : Nat} {σ : mHp} {F : aF} {man : Nat} {P : List aP}
theorem fO_E {σ σ1 : mHp} (h : fE σ σ1) : fO σ σ1 := h.1
theorem fO_24 {σ σ1 : mHp} (h : fs [24] σ σ1) : fO σ σ1 := fun i a b => h i (by simp; omega)
theorem sR_of {σ : mHp} {k : Nat} (h : sL σ F man P k P.length) : sR σ F man P k (fun _ => 0) := ⟨h.1, h.2.2.1, h.2.2.2⟩
theorem gB_nil {F : aF} {man : Nat} {f : Nat} : nd (gS F man f) := gB_nd (meets_nd _ nd_nil)
theorem c_rankIn (hf : fOk F) (hc : cF σ F) {k mn f : Nat} (hk : k ≤ 7) (hm1 : mn ≤ 1) (hfn : f < aN F) : mNS g l (d + 6) 113 [.ref 0, .int (nI f), .int (nI mn)] k σ (.int (qRk F mn f)) (fun _ σ1 => fO σ σ1) := by
  have hsl := stp_len F mn f
  have hml := meets_nil_len hsl
  show mC g l (d + 6) 113 [.ref 0, .int (nI f), .int (nI mn)] (SH (lkL k) (exL k)) σ _
  have ok : mOkP md_X8_rankIn := ok_at 113 (by decide) rfl
  refine mC_of (md := md_X8_rankIn) rfl (lt_at (by decide)) rfl ?_
  refine mGo_run (n := 400) ok rfl ?_
  refine mGo_callV ok rfl (by omega) (c_startFromFormula (d := d) (k := k) hf hc hm1 hfn) (fun σ1 hσ1 => ?_)
  obtain ⟨f1, s1, s2, s3, s4, s5⟩ := hσ1
  refine mGo_run (n := 400) ok rfl ?_
  refine mGo_call ok rfl (by omega) (c_explore (d := d) hf (f1.cf hc) hk s2 s1 (meets_nd _ nd_nil) (by omega) s3 s4 hm1) (fun r sp σ2 hq => ?_)
  obtain ⟨rfl, k1, k1a, k1b, rfl, f2, y⟩ := hq
  have f12 := f1.trans (fO_E f2)
  refine mGo_ifI ok rfl (bI_0) (fun h => ?_) (fun h => ?_)
  · have h1 : ¬ (gB F mn (meets [] (stp F mn f))).length ≤ 300 := of_decide_eq_false h
    refine mGo_run (n := 400) ok rfl ?_
    exact mGo_ret ok rfl trivial (⟨by unfold qRk gS; rw [if_pos (by omega)], k1, k1a, k1b, rfl, f12⟩)
  · have h1 : (gB F mn (meets [] (stp F mn f))).length ≤ 300 := by simpa using h
    have hy := y h1
    have hcl := gB_clo (F := F) (man := mn) (P := meets [] (stp F mn f)) (by omega) h1
    have hpf := gB_pfx (F := F) (man := mn) (meets [] (stp F mn f))
    refine mGo_run (n := 400) ok rfl ?_
    refine mGo_callV ok rfl (by omega) (c_settleRanks (d := d) hf k1b (sR_of hy) h1 hcl) (fun σ3 hσ3 => ?_)
    have f13 := f12.trans (fO_24 hσ3.1)
    refine mGo_run (n := 400) ok rfl ?_
    refine mGo_callP ok rfl (by omega) (c_highest (d := d) (k := k1) hσ3.2.1 h1 (fun i _ => by have := gR_le (F := F) (mn := mn) (i := i) h1; omega) (n := (meets [] (stp F mn f)).length) (by rw [(hσ3.1 21 (by decide)).1, f2.2.1]; exact s5) hpf.len) ?_
    refine mGo_run (n := 400) ok rfl ?_
    have key := start_eq hsl hpf (gB_nd (meets_nd _ nd_nil)) (gR F mn (gB F mn (meets [] (stp F mn f))))
    rw [← key]
    have eq : qRk F mn f = hst ((stp F mn f).map (fun x => gR F mn (gB F mn (meets [] (stp F mn f))) (ix (gB F mn (meets [] (stp F mn f))) x))) := by unfold qRk gS; rw [if_neg (by omega)]
    rw [eq]
    unfold hst
    have hle := rbA_le ((stp F mn f).map (fun x => gR F mn (gB F mn (meets [] (stp F mn f))) (ix (gB F mn (meets [] (stp F mn f))) x))) 0 300 (by omega) (fun y hy => by
      obtain ⟨x, hx, rfl⟩ := List.mem_map.mp hy
      exact gR_le h1)
    cases he : (stp F mn f).map (fun x => gR F mn (gB F mn (meets [] (stp F mn f))) (ix (gB F mn (meets [] (stp F mn f))) x)) with
    | nil =>
      refine mGo_if ok rfl (fun h2 => ?_) (fun h2 => ?_)
      · refine mGo_run (n := 400) ok rfl ?_
        exact mGo_ret ok rfl trivial (⟨by rw [if_pos rfl], k1, k1a, k1b, rfl, f13⟩)
      · exact absurd (by decide) h2
    | cons v t =>
      rw [he] at hle
      rw [if_neg (show ¬ (v :: t = ([] : List Nat)) by simp)]
      by_cases h0 : rbA 0 (v :: t) = 0
      · rw [if_pos h0, if_pos h0]
        refine mGo_if ok rfl (fun h2 => ?_) (fun h2 => ?_)
        · refine mGo_run (n := 400) ok rfl ?_
          exact mGo_ret ok rfl trivial (⟨rfl, k1, k1a, k1b, rfl, f13⟩)
        · exact absurd rfl h2
      · rw [if_neg h0, if_neg h0]
        have hv : 1 < rbA 0 (v :: t) := by
          have h3 : v ≠ 0 := fun z => h0 ((rbA_0 _ _).mpr (by rw [z]; exact List.mem_cons_self))
          have h4 : rbA 0 (v :: t) ≠ 0 + 1 := fun z => by
            have := ((rbA_iff _ _ _).mp z).2.1 v List.mem_cons_self
            omega
          omega
        refine mGo_ifI ok rfl (nI_eq (a := rbA 0 (v :: t) - 1) (b := 0) (by omega) (by omega)) (fun h2 => ?_) (fun h2 => ?_)
        · omega
        · refine mGo_run (n := 400) ok rfl ?_
          exact mGo_ret ok rfl trivial (⟨rfl, k1, k1a, k1b, rfl, f13⟩)
theorem x_rank (hf : fOk F) (hc : cF σ F) {k : Nat} (hk : k ≤ 7) (f m : Int32) : mNS g l (d + 7) 90 [.ref 0, .int f, .int m] k σ (.int (qRank F f m)) (fun _ σ1 => fO σ σ1) := by
  have hn := hf.2.1
  show mC g l (d + 7) 90 [.ref 0, .int f, .int m] (SH (lkL k) (exL k)) σ _
  have ok : mOkP md_X8_rank := ok_at 90 (by decide) rfl
  refine mC_of (md := md_X8_rank) rfl (lt_at (by decide)) rfl ?_
  unfold qRank
  refine mGo_run (n := 400) ok rfl ?_
  by_cases hfm : 0 ≤ f ∧ f < nI (aN F)
  · obtain ⟨j, hj, rfl⟩ := (i_in (by omega)).mp hfm
    rw [if_neg (fun z => z hfm), nI_clamp (n := j) (by omega)]
    refine mGo_callP ok rfl (by omega) (c_has1 (d := d) hc.1 hf.2.1 hj) ?_
    refine mGo_if ok rfl (fun h => ?_) (fun h => ?_)
    · exact absurd h (by decide)
    · refine mGo_run (n := 400) ok rfl ?_
      refine mGo_callP ok rfl (by omega) (c_isManner (d := d) m) ?_
      by_cases hq : qMan m
      · rw [if_pos hq, if_neg (fun z => z hq)]
        obtain ⟨mn, hmn, rfl⟩ := qMan_n hq
        rw [nI_clamp (n := mn) (by omega)]
        refine mGo_if ok rfl (fun h1 => ?_) (fun h1 => ?_)
        · exact absurd h1 (by decide)
        · refine mGo_run (n := 400) ok rfl ?_
          refine mGo_call ok rfl (by omega) (c_rankIn (d := d) hf hc hk hmn hj) (fun r sp σ2 hq => ?_)
          obtain ⟨rfl, k1, k1a, k1b, rfl, f2⟩ := hq
          refine mGo_run (n := 400) ok rfl ?_
          exact mGo_ret ok rfl trivial (⟨rfl, k1, k1a, k1b, rfl, f2⟩)
      · rw [if_neg hq, if_pos hq]
        refine mGo_if ok rfl (fun h1 => ?_) (fun h1 => ?_)
        · refine mGo_run (n := 400) ok rfl ?_
          exact mGo_ret ok rfl trivial (⟨rfl, k, Nat.le_refl _, hk, rfl, fO.refl⟩)
        · exact absurd rfl h1
  · rw [if_pos hfm]
    refine mGo_callP ok rfl (by omega) (c_has0 (d := d) hc.1 hf.2.1 (fun z => hfm ((i_in (by omega)).mpr z))) ?_
    refine mGo_if ok rfl (fun h => ?_) (fun h => ?_)
    · refine mGo_run (n := 400) ok rfl ?_
      exact mGo_ret ok rfl trivial (⟨rfl, k, Nat.le_refl _, hk, rfl, fO.refl⟩)
    · exact absurd rfl h
theorem x_positionCount (hf : fOk F) (hc : cF σ F) {k : Nat} (hk : k ≤ 7) (f m : Int32) : mNS g l (d + 7) 91 [.ref 0, .int f, .int m] k σ (.int (qCnt F f m)) (fun _ σ1 => fO σ σ1) := by
  have hn := hf.2.1
  show mC g l (d + 7) 91 [.ref 0, .int f, .int m] (SH (lkL k) (exL k)) σ _
  have ok : mOkP md_X8_positionCount := ok_at 91 (by decide) rfl
  refine mC_of (md := md_X8_positionCount) rfl (lt_at (by decide)) rfl ?_
  unfold qCnt
  refine mGo_run (n := 400) ok rfl ?_
  by_cases hfm : 0 ≤ f ∧ f < nI (aN F)
  · obtain ⟨j, hj, rfl⟩ := (i_in (by omega)).mp hfm
    rw [if_neg (fun z => z hfm), nI_clamp (n := j) (by omega)]
    refine mGo_callP ok rfl (by omega) (c_has1 (d := d) hc.1 hf.2.1 hj) ?_
    refine mGo_if ok rfl (fun h => ?_) (fun h => ?_)
    · exact absurd h (by decide)
    · refine mGo_run (n := 400) ok rfl ?_
      refine mGo_callP ok rfl (by omega) (c_isManner (d := d) m) ?_
      by_cases hq : qMan m
      · rw [if_pos hq, if_neg (fun z => z hq)]
        obtain ⟨mn, hmn, rfl⟩ := qMan_n hq
        rw [nI_clamp (n := mn) (by omega)]
        have hml := meets_nil_len (stp_len F mn j)
        refine mGo_if ok rfl (fun h1 => ?_) (fun h1 => ?_)
        · exact absurd h1 (by decide)
        · refine mGo_run (n := 400) ok rfl ?_
          refine mGo_callV ok rfl (by omega) (c_startFromFormula (d := d) (k := k) hf hc hmn hj) (fun σ1 hσ1 => ?_)
          obtain ⟨f1, s1, s2, s3, s4, s5⟩ := hσ1
          refine mGo_run (n := 400) ok rfl ?_
          refine mGo_call ok rfl (by omega) (c_explore (d := d) hf (f1.cf hc) hk s2 s1 (meets_nd _ nd_nil) (by omega) s3 s4 hmn) (fun r sp σ2 hq => ?_)
          obtain ⟨rfl, k1, k1a, k1b, rfl, f2, y⟩ := hq
          have f12 := f1.trans (fO_E f2)
          refine mGo_ifI ok rfl (bI_0) (fun h2 => ?_) (fun h2 => ?_)
          · have h3 : ¬ (gS F mn j).length ≤ 300 := of_decide_eq_false h2
            refine mGo_run (n := 400) ok rfl ?_
            exact mGo_ret ok rfl trivial (⟨by rw [if_pos (by omega)], k1, k1a, k1b, rfl, f12⟩)
          · have h3 : (gB F mn (meets [] (stp F mn j))).length ≤ 300 := by simpa using h2
            have h3 : (gS F mn j).length ≤ 300 := h3
            have hy := y h3
            refine mGo_run (n := 400) ok rfl ?_
            rw [hy.1.1]
            exact mGo_ret ok rfl trivial (⟨by rw [if_neg (by omega)]; rfl, k1, k1a, k1b, rfl, f12⟩)
      · rw [if_neg hq, if_pos hq]
        refine mGo_if ok rfl (fun h1 => ?_) (fun h1 => ?_)
        · refine mGo_run (n := 400) ok rfl ?_
          exact mGo_ret ok rfl trivial (⟨rfl, k, Nat.le_refl _, hk, rfl, fO.refl⟩)
        · exact absurd rfl h1
  · rw [if_pos hfm]
    refine mGo_callP ok rfl (by omega) (c_has0 (d := d) hc.1 hf.2.1 (fun z => hfm ((i_in (by omega)).mpr z))) ?_
    refine mGo_if ok rfl (fun h => ?_) (fun h => ?_)
    · refine mGo_run (n := 400) ok rfl ?_
      exact mGo_ret ok rfl trivial (⟨rfl, k, Nat.le_refl _, hk, rfl, fO.refl⟩)
    · exact absurd rfl h
theorem x_manners (hf : fOk F) (hc : cF σ F) {k : Nat} (hk : k ≤ 7) (f : Int32) : mNS g l (d + 7) 92 [.ref 0, .int f] k σ (.int (qMns F f)) (fun _ σ1 => fO σ σ1) := by
  have hn := hf.2.1
  show mC g l (d + 7) 92 [.ref 0, .int f] (SH (lkL k) (exL k)) σ _
  have ok : mOkP md_X8_manners := ok_at 92 (by decide) rfl
  refine mC_of (md := md_X8_manners) rfl (lt_at (by decide)) rfl ?_
  unfold qMns
  refine mGo_run (n := 400) ok rfl ?_
  by_cases hfm : 0 ≤ f ∧ f < nI (aN F)
  · obtain ⟨j, hj, rfl⟩ := (i_in (by omega)).mp hfm
    rw [if_neg (fun z => z hfm), nI_clamp (n := j) (by omega)]
    refine mGo_callP ok rfl (by omega) (c_has1 (d := d) hc.1 hf.2.1 hj) ?_
    refine mGo_if ok rfl (fun h => ?_) (fun h => ?_)
    · exact absurd h (by decide)
    · refine mGo_run (n := 400) ok rfl ?_
      refine mGo_call ok rfl (by omega) (c_rankIn (d := d) (mn := 1) hf hc hk (by omega) hj) (fun r sp σ1 hq => ?_)
      obtain ⟨rfl, k1, k1a, k1b, rfl, f1⟩ := hq
      refine mGo_run (n := 400) ok rfl ?_
      refine mGo_call ok rfl (by omega) (c_rankIn (d := d) (mn := 0) hf (f1.cf hc) k1b (by omega) hj) (fun r sp σ2 hq => ?_)
      obtain ⟨rfl, k2, k2a, k2b, rfl, f2⟩ := hq
      have t2 := f1.trans f2
      have bad : (qRk F 1 j = -6 ∨ qRk F 0 j = -6) → mGo g l (d + 7) md_X8_manners (SH (lkL k) (exL k)).length (mTot (SH (lkL k) (exL k))) (40, [some (.ref 0), some (.int (nI j)), some (.int (qRk F 1 j)), some (.int (qRk F 0 j))], [], SH (lkL k2) (exL k2), σ2) (fun r1 sp σ1 => r1 = some (.int (if qRk F 1 j = -6 ∨ qRk F 0 j = -6 then -6 else (if 0 < qRk F 1 j then 1 else 0) + (if 0 < qRk F 0 j then 2 else 0))) ∧ ∃ k1, k ≤ k1 ∧ k1 ≤ 7 ∧ sp = SK k1 ∧ fO σ σ1) := by
        intro z
        rw [if_pos z]
        refine mGo_run (n := 400) ok rfl ?_
        exact mGo_ret ok rfl trivial (⟨rfl, k2, by omega, k2b, rfl, t2⟩)
      refine mGo_run (n := 400) ok rfl ?_
      refine mGo_if ok rfl (fun h1 => ?_) (fun h1 => ?_)
      · exact bad (Or.inl h1)
      · refine mGo_run (n := 400) ok rfl ?_
        refine mGo_if ok rfl (fun h2 => ?_) (fun h2 => ?_)
        · exact bad (Or.inr h2)
        · rw [if_neg (by rintro (z | z); exact h1 z; exact h2 z)]
          have last : ∀ a : Int32, mGo g l (d + 7) md_X8_manners (SH (lkL k) (exL k)).length (mTot (SH (lkL k) (exL k))) (52, [some (.ref 0), some (.int (nI j)), some (.int (qRk F 1 j)), some (.int (qRk F 0 j))], [.int a], SH (lkL k2) (exL k2), σ2) (fun r1 sp σ1 => r1 = some (.int (a + (if 0 < qRk F 0 j then 2 else 0))) ∧ ∃ k1, k ≤ k1 ∧ k1 ≤ 7 ∧ sp = SK k1 ∧ fO σ σ1) := by
            intro a
            refine mGo_run (n := 400) ok rfl ?_
            refine mGo_if ok rfl (fun h3 => ?_) (fun h3 => ?_)
            · refine mGo_run (n := 400) ok rfl ?_
              exact mGo_ret ok rfl trivial (⟨by rw [if_neg (Int32.not_lt.mpr h3)], k2, by omega, k2b, rfl, t2⟩)
            · refine mGo_run (n := 400) ok rfl ?_
              exact mGo_ret ok rfl trivial (⟨by rw [if_pos (Int32.not_le.mp h3)], k2, by omega, k2b, rfl, t2⟩)
          refine mGo_run (n := 400) ok rfl ?_
          refine mGo_if ok rfl (fun h3 => ?_) (fun h3 => ?_)
          · refine mGo_runS 52 (n := 400) ok rfl ?_
            rw [if_neg (Int32.not_lt.mpr h3)]
            exact last 0
          · refine mGo_runS 52 (n := 400) ok rfl ?_
            rw [if_pos (Int32.not_le.mp h3)]
            exact last 1
  · rw [if_pos hfm]
    refine mGo_callP ok rfl (by omega) (c_has0 (d := d) hc.1 hf.2.1 (fun z => hfm ((i_in (by omega)).mpr z))) ?_
    refine mGo_if ok rfl (fun h => ?_) (fun h => ?_)
    · refine mGo_run (n := 400) ok rfl ?_
      exact mGo_ret ok rfl trivial (⟨rfl, k, Nat.le_refl _, hk, rfl, fO.refl⟩)
    · exact absurd rfl h
end T
