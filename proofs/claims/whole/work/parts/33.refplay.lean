/-! the reference: the dialogue -/
def rD (σ : mHp) (bg w : Bool) (k man : Nat) (ps : Nat → Int64 × Int64) : Prop := σ.1 48 24 = bI bg ∧ (bg = true → σ.1 48 25 = bI w ∧ σ.1 48 26 = nI k ∧ σ.1 48 17 = nI man ∧ ∀ i, i ≤ k → σ.2.1 60 i = (ps i).1 ∧ σ.2.1 61 i = (ps i).2)
theorem rD_fr {lo hi : Nat} {ks : List Nat} {σ σ1 : mHp} {bg w : Bool} {k man : Nat} {ps : Nat → Int64 × Int64} (h : fr lo hi σ σ1) (hm : fm ks σ σ1) (hlo : 62 ≤ lo ∨ hi ≤ 60) (hk : 24 ∉ ks ∧ 25 ∉ ks ∧ 26 ∉ ks ∧ 17 ∉ ks) (hd : rD σ bg w k man ps) : rD σ1 bg w k man ps := by
  obtain ⟨d1, d2⟩ := hd
  obtain ⟨k1, k2, k3, k4⟩ := hk
  have e60 := h 60 (by omega)
  have e61 := h 61 (by omega)
  refine ⟨by rw [(hm 24 k1).1]; exact d1, fun z => ?_⟩
  obtain ⟨g1, g2, g3, g4⟩ := d2 z
  exact ⟨by rw [(hm 25 k2).1]; exact g1, by rw [(hm 26 k3).1]; exact g2, by rw [(hm 17 k4).1]; exact g3, fun i hi => by rw [e60.2.1, e61.2.1]; exact g4 i hi⟩
/-- a frame away from the reference's own numbers -/
theorem fm_fr {lo hi : Nat} {σ σ1 : mHp} (h : fr lo hi σ σ1) (h1 : 49 ≤ lo ∨ hi ≤ 48) : fm [] σ σ1 := fun k _ => by
  have e := h 48 (by omega)
  rw [e.1, e.2.1]; exact ⟨rfl, rfl⟩
theorem mF_f2 {lo hi : Nat} {ks : List Nat} {σ σ1 : mHp} {F : aF} (h : fr lo hi σ σ1) (hm : fm ks σ σ1) (hlo : 52 ≤ lo ∨ hi ≤ 49) (hk : 0 ∉ ks) (hF : mF σ F) : mF σ1 F := by
  refine ⟨by rw [(hm 0 hk).1]; exact hF.1, fun j hj => ?_⟩
  rw [(h 49 (by omega)).1, (h 50 (by omega)).1, (h 51 (by omega)).1]
  exact hF.2 j hj
section T
variable {g : mG} {l : Launch} {d : Nat} {lk : Nat} {ex : mSh} {σ : mHp} {F : aF} {bg w : Bool} {k man : Nat} {ps : Nat → Int64 × Int64}
theorem m_isPlaying (hD : rD σ bg w k man ps) : mNP g l d 170 [.ref 48] lk ex σ (.int (bI (bg && !w))) := by
  obtain ⟨d1, d2⟩ := hD
  have ok : mOkP md_X9_isPlaying := ok_at 170 (by decide) rfl
  refine mC_of (md := md_X9_isPlaying) rfl (lt_at (by decide)) rfl ?_
  refine mGo_run (n := 400) ok rfl ?_
  rw [d1]
  refine mGo_ifI ok rfl (bI_0) (fun h => ?_) (fun h => ?_)
  · refine mGo_run (n := 400) ok rfl ?_
    exact mGo_ret ok rfl (Or.inl rfl) (⟨by rw [h]; rfl, rfl, rfl⟩)
  · have eb : bg = true := by simpa using h
    obtain ⟨g1, g2, g3, g4⟩ := d2 eb
    refine mGo_run (n := 400) ok rfl ?_
    rw [g1]
    refine mGo_ifI ok rfl (bI_0) (fun h1 => ?_) (fun h1 => ?_)
    · refine mGo_run (n := 400) ok rfl ?_
      exact mGo_ret ok rfl (Or.inr rfl) (⟨by rw [eb, h1]; rfl, rfl, rfl⟩)
    · have ew : w = true := by simpa using h1
      refine mGo_run (n := 400) ok rfl ?_
      exact mGo_ret ok rfl (Or.inl rfl) (⟨by rw [eb, ew]; rfl, rfl, rfl⟩)
theorem m_now (hD : rD σ true w k man ps) (hk : k ≤ 20) : mNV g l d 171 [.ref 48] lk ex σ (fun σ1 => σ1 = mWL (mWL σ 48 15 (ps k).1) 48 16 (ps k).2) := by
  obtain ⟨d1, d2⟩ := hD
  obtain ⟨g1, g2, g3, g4⟩ := d2 rfl
  obtain ⟨p1, p2⟩ := g4 k (Nat.le_refl _)
  have ok : mOkP md_X9_now := ok_at 171 (by decide) rfl
  refine mC_of (md := md_X9_now) rfl (lt_at (by decide)) rfl ?_
  refine mGo_run (n := 400) ok rfl ?_
  rw [g2]
  refine mGo_side ok rfl (nI_in (by omega) (by omega)) ?_
  rw [nI_clamp (n := k) (by omega), p1]
  refine mGo_run (n := 400) ok rfl ?_
  rw [show (mWL σ 48 15 (ps k).1).1 48 26 = nI k from g2]
  refine mGo_side ok rfl (nI_in (by omega) (by omega)) ?_
  rw [nI_clamp (by omega), show (mWL σ 48 15 (ps k).1).2.1 61 k = (ps k).2 by rw [WL_at, if_neg (by omega)]; exact p2]
  refine mGo_run (n := 400) ok rfl ?_
  exact mGo_ret ok rfl trivial (⟨rfl, rfl, rfl⟩)
/-- the reference's dialogue: its own cell, its texts and its formulas stay -/
def fq (σ σ1 : mHp) : Prop := fr 48 62 σ σ1 ∧ σ1.1 52 = σ.1 52
theorem fq.refl {σ : mHp} : fq σ σ := ⟨fr.refl, rfl⟩
theorem fq.trans {σ σ1 σ2 : mHp} (h1 : fq σ σ1) (h2 : fq σ1 σ2) : fq σ σ2 := ⟨h1.1.trans h2.1, h2.2.trans h1.2⟩
theorem m_start (hf : fOk F) (hm : mF σ F) {f mn r : Nat} (hfn : f < aN F) (k0 : aK F f ≠ 0) (hm1 : mn ≤ 1) (hr : r < 4) : mNV g l (d + 1) 172 [.ref 48, .int (nI f), .int (nI mn), .int (nI r)] lk ex σ (fun σ1 => fq σ σ1 ∧ fm [15, 16, 17, 24, 25, 26] σ σ1 ∧ mF σ1 F ∧ rD σ1 true false 0 mn (fun _ => atP2 F mn 0 0 f r) ∧ mQ σ1 (atP2 F mn 0 0 f r).1 (atP2 F mn 0 0 f r).2) := by
  have ok : mOkP md_X9_start := ok_at 172 (by decide) rfl
  refine mC_of (md := md_X9_start) rfl (lt_at (by decide)) rfl ?_
  refine mGo_run (n := 400) ok rfl ?_
  have f0 : fr 48 49 σ (mWL (mWL (mWI σ 48 17 (nI mn)) 48 15 0) 48 16 0) := ((fr.refl.WI (by decide) (by decide)).WL (by decide) (by decide)).WL (by decide) (by decide)
  have m0 : fm [15, 16, 17] σ (mWL (mWL (mWI σ 48 17 (nI mn)) 48 15 0) 48 16 0) := ((fm.refl.WI (fun _ => by decide)).WL (fun _ => by decide)).WL (fun _ => by decide)
  refine mGo_callV ok rfl (by omega) (m_attack (d := d) hf (mF_f2 f0 m0 (by omega) (by decide) hm) (c := 0) (o := 0) ⟨by simp [WL_at], by simp [WL_at]⟩ (man := mn) (show (mWI σ 48 17 (nI mn)).1 48 17 = nI mn by simp [WI_at]) hm1 hfn k0 (r := r) (by omega)) (fun σ1 hσ1 => ?_)
  obtain ⟨f1, m1, q1, q2⟩ := hσ1
  refine mGo_run (n := 400) ok rfl ?_
  refine mGo_side ok rfl (Or.inr rfl) ?_
  refine mGo_run (n := 400) ok rfl ?_
  refine mGo_side ok rfl (Or.inl rfl) ?_
  refine mGo_run (n := 400) ok rfl ?_
  refine mGo_side ok rfl (nI_in (c := 0) (by omega) (by omega)) ?_
  rw [show (0 : Int32) = nI 0 from rfl, nI_clamp (n := 0) (by omega)]
  refine mGo_run (n := 400) ok rfl ?_
  rw [show (mWI (mWI (mWI σ1 48 24 1) 48 25 (nI 0)) 48 26 (nI 0)).2.1 48 15 = (atP2 F mn 0 0 f r).1 from q1]
  refine mGo_side ok rfl (nI_in (c := 0) (by omega) (by omega)) ?_
  rw [show (0 : Int32) = nI 0 from rfl, nI_clamp (n := 0) (by omega)]
  refine mGo_run (n := 400) ok rfl ?_
  rw [show (mWL (mWI (mWI (mWI σ1 48 24 1) 48 25 (nI 0)) 48 26 (nI 0)) 60 0 (atP2 F mn 0 0 f r).1).2.1 48 16 = (atP2 F mn 0 0 f r).2 by rw [WL_at, if_neg (by omega)]; exact q2]
  have ff : fr 48 62 σ (mWL (mWL (mWI (mWI (mWI σ1 48 24 1) 48 25 (nI 0)) 48 26 (nI 0)) 60 0 (atP2 F mn 0 0 f r).1) 61 0 (atP2 F mn 0 0 f r).2) := ((((((f0.trans f1).wide (by decide) (by decide)).WI (by decide) (by decide)).WI (by decide) (by decide)).WI (by decide) (by decide)).WL (by decide) (by decide)).WL (by decide) (by decide)
  have mm : fm [15, 16, 17, 24, 25, 26] σ (mWL (mWL (mWI (mWI (mWI σ1 48 24 1) 48 25 (nI 0)) 48 26 (nI 0)) 60 0 (atP2 F mn 0 0 f r).1) 61 0 (atP2 F mn 0 0 f r).2) := ((((((m0.wide (by decide)).trans (m1.wide (by decide))).WI (fun _ => by decide)).WI (fun _ => by decide)).WI (fun _ => by decide)).WL (fun z => absurd z (by decide))).WL (fun z => absurd z (by decide))
  have hmF : mF (mWL (mWL (mWI (mWI (mWI σ1 48 24 1) 48 25 (nI 0)) 48 26 (nI 0)) 60 0 (atP2 F mn 0 0 f r).1) 61 0 (atP2 F mn 0 0 f r).2) F := by
    have h1 := mF_f2 f1 m1 (by omega) (by decide) (mF_f2 f0 m0 (by omega) (by decide) hm)
    refine ⟨?_, fun j hj => h1.2 j hj⟩
    show (mWI (mWI (mWI σ1 48 24 1) 48 25 (nI 0)) 48 26 (nI 0)).1 48 0 = _
    simp only [WI_at]
    exact h1.1
  refine mGo_ret ok rfl trivial ⟨rfl, rfl, ⟨ff, (((((f0.trans f1).WI (i := 48) (k := 24) (v := 1) (by decide) (by decide)).WI (i := 48) (k := 25) (v := nI 0) (by decide) (by decide)).WI (i := 48) (k := 26) (v := nI 0) (by decide) (by decide)) 52 (by omega)).1⟩, mm, hmF, ⟨?_, fun _ => ⟨?_, ?_, ?_, fun i hi => ?_⟩⟩, ?_, ?_⟩
  · show (mWI (mWI (mWI σ1 48 24 1) 48 25 (nI 0)) 48 26 (nI 0)).1 48 24 = _; simp [WI_at, bI]
  · show (mWI (mWI (mWI σ1 48 24 1) 48 25 (nI 0)) 48 26 (nI 0)).1 48 25 = _; simp [WI_at, bI]; rfl
  · show (mWI (mWI (mWI σ1 48 24 1) 48 25 (nI 0)) 48 26 (nI 0)).1 48 26 = _; simp [WI_at]
  · show (mWI (mWI (mWI σ1 48 24 1) 48 25 (nI 0)) 48 26 (nI 0)).1 48 17 = _
    rw [WI_at, if_neg (by omega), WI_at, if_neg (by omega), WI_at, if_neg (by omega), (m1 17 (by decide)).1]
    show (mWI σ 48 17 (nI mn)).1 48 17 = _
    simp [WI_at]
  · have : i = 0 := by omega
    subst this
    constructor <;> simp [WL_at]
  · rw [WL_at, if_neg (by omega), WL_at, if_neg (by omega)]; exact q1
  · rw [WL_at, if_neg (by omega), WL_at, if_neg (by omega)]; exact q2
end T
