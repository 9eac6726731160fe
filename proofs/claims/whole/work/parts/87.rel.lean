/-! what holds between the two objects -/
def eR (σ : mHp) (S : aSl) : Prop := ∀ k t a, k < 4 → (S k).1 = nI t → t < 4 → a < (S k).2 → (t < 2 → σ.2.1 (33 + 4 * k) a = σ.2.1 64 (40 * k + a)) ∧ (2 ≤ t → rE t (σ.1 (35 + 4 * k) a) (σ.2.2 (34 + 4 * k) a) (σ.2.2 65 (40 * k + a)))
def oK (F : aF) (T : aI) (k man : Nat) (ps : aPs) (S : aSl) : Prop := fOk F ∧ T.1 ≤ 40 ∧ dOk F k man ps ∧ sOk S
def cL (σ : mHp) (F : aF) (T : aI) (bg w : Bool) (k man : Nat) (ps : aPs) (S : aSl) : Prop := cF σ F ∧ cS σ F ∧ cI σ T ∧ cD σ F bg w k man ps ∧ cSl σ S
def rL (σ : mHp) (F : aF) (T : aI) (bg w : Bool) (k man : Nat) (ps : aPs) (S : aSl) : Prop := mF σ F ∧ mI σ T ∧ rD σ bg w k man ps ∧ yS σ S
def R0 (σ : mHp) (F : aF) (T : aI) (bg w : Bool) (k man : Nat) (ps : aPs) (S : aSl) : Prop := oK F T k man ps S ∧ cL σ F T bg w k man ps S ∧ rL σ F T bg w k man ps S ∧ eR σ S
def Rel (σ : mHp) : Prop := ∃ (F : aF) (T : aI) (bg w : Bool) (k man : Nat) (ps : aPs) (S : aSl), R0 σ F T bg w k man ps S
section T
variable {σ σ1 σ2 : mHp} {F F1 : aF} {T T1 : aI} {bg w bg1 w1 : Bool} {k man k1 man1 : Nat} {ps ps1 : aPs} {S S1 : aSl}
theorem R0.rel (h : R0 σ F T bg w k man ps S) : Rel σ := ⟨F, T, bg, w, k, man, ps, S, h⟩
theorem cF_sm (h : ∀ i, 1 ≤ i → i < 8 → sm3 σ σ1 i) (hc : cF σ F) : cF σ1 F := ⟨by rw [(h 1 (by omega) (by omega)).1]; exact hc.1, fun j hj => by rw [(h 2 (by omega) (by omega)).1, (h 3 (by omega) (by omega)).1, (h 4 (by omega) (by omega)).1]; exact hc.2 j hj⟩
theorem cS_sm (h : ∀ i, 1 ≤ i → i < 8 → sm3 σ σ1 i) (hs : cS σ F) : cS σ1 F := fun j hj => by rw [(h 5 (by omega) (by omega)).1, (h 6 (by omega) (by omega)).1, (h 7 (by omega) (by omega)).2.1]; exact hs j hj
theorem cI_sm (h8 : sm3 σ σ1 8) (h9 : sm3 σ σ1 9) (hc : cI σ T) : cI σ1 T := ⟨by rw [h8.1]; exact hc.1, fun i hi => by rw [h9.1]; exact hc.2 i hi⟩
theorem cD_k (h15 : σ1.1 15 = σ.1 15) (h16 : σ1.2.1 16 = σ.2.1 16) (h17 : σ1.2.1 17 = σ.2.1 17) (h18 : σ1.1 18 = σ.1 18) (a5 : σ1.2.1 18 5 = σ.2.1 18 5) (a6 : σ1.2.1 18 6 = σ.2.1 18 6) (h19 : σ1.1 19 = σ.1 19) (h20 : σ1.1 20 = σ.1 20) (hd : cD σ F bg w k man ps) : cD σ1 F bg w k man ps := by
  obtain ⟨d1, d2, d3, d4⟩ := hd
  refine ⟨by rw [h15]; exact d1, by rw [h15]; exact d2, by rw [h15]; exact d3, fun hb => ?_⟩
  obtain ⟨q1, q2, q3, q4, q5, q6⟩ := d4 hb
  refine ⟨fun i hi => by rw [h16, h17]; exact q1 i hi, by rw [h18]; exact q2, by rw [a5]; exact q3, by rw [a6]; exact q4, by rw [h18]; exact q5, fun i q hq => ?_⟩
  show σ1.1 19 i = _ ∧ σ1.1 20 i = _
  rw [h19, h20]
  exact q6 i q hq
theorem cD_sm (h : ∀ i, 15 ≤ i → i < 21 → sm3 σ σ1 i) (hd : cD σ F bg w k man ps) : cD σ1 F bg w k man ps :=
  cD_k (h 15 (by omega) (by omega)).1 (h 16 (by omega) (by omega)).2.1 (h 17 (by omega) (by omega)).2.1 (h 18 (by omega) (by omega)).1 (by rw [(h 18 (by omega) (by omega)).2.1]) (by rw [(h 18 (by omega) (by omega)).2.1]) (h 19 (by omega) (by omega)).1 (h 20 (by omega) (by omega)).1 hd
theorem cSl_sm (h : ∀ i, 32 ≤ i → i < 48 → sm3 σ σ1 i) (hS : cSl σ S) : cSl σ1 S := fun k hk => by
  rw [(h (32 + 4 * k) (by omega) (by omega)).1]
  exact hS k hk
theorem eR_sm (h : ∀ i, 32 ≤ i → i < 48 → sm3 σ σ1 i) (h4 : σ1.2.1 64 = σ.2.1 64) (h5 : σ1.2.2 65 = σ.2.2 65) (he : eR σ S) : eR σ1 S := fun k t a hk h1 h2 h3 => by
  rw [(h (33 + 4 * k) (by omega) (by omega)).2.1, (h (35 + 4 * k) (by omega) (by omega)).1, (h (34 + 4 * k) (by omega) (by omega)).2.2, h4, h5]
  exact he k t a hk h1 h2 h3
theorem cL_lo (h : ∀ i, i < 48 → sm3 σ σ1 i) (hc : cL σ F T bg w k man ps S) : cL σ1 F T bg w k man ps S :=
  ⟨cF_sm (fun i _ _ => h i (by omega)) hc.1, cS_sm (fun i _ _ => h i (by omega)) hc.2.1, cI_sm (h 8 (by omega)) (h 9 (by omega)) hc.2.2.1, cD_sm (fun i _ _ => h i (by omega)) hc.2.2.2.1, cSl_sm (fun i _ _ => h i (by omega)) hc.2.2.2.2⟩
theorem mF_k (h0 : σ1.1 48 0 = σ.1 48 0) (h : ∀ i, 49 ≤ i → i < 52 → sm3 σ σ1 i) (hm : mF σ F) : mF σ1 F := ⟨by rw [h0]; exact hm.1, fun j hj => by rw [(h 49 (by omega) (by omega)).1, (h 50 (by omega) (by omega)).1, (h 51 (by omega) (by omega)).1]; exact hm.2 j hj⟩
theorem mI_k (h0 : σ1.1 48 6 = σ.1 48 6) (h : σ1.1 52 = σ.1 52) (hm : mI σ T) : mI σ1 T := ⟨by rw [h0]; exact hm.1, fun j hj => by rw [h]; exact hm.2 j hj⟩
theorem rD_k (hm : ∀ j, j = 17 ∨ j = 24 ∨ j = 25 ∨ j = 26 → σ1.1 48 j = σ.1 48 j) (h60 : σ1.2.1 60 = σ.2.1 60) (h61 : σ1.2.1 61 = σ.2.1 61) (hd : rD σ bg w k man ps) : rD σ1 bg w k man ps := by
  obtain ⟨d1, d2⟩ := hd
  refine ⟨by rw [hm 24 (by omega)]; exact d1, fun hb => ?_⟩
  obtain ⟨q1, q2, q3, q4⟩ := d2 hb
  exact ⟨by rw [hm 25 (by omega)]; exact q1, by rw [hm 26 (by omega)]; exact q2, by rw [hm 17 (by omega)]; exact q3, fun i hi => by rw [h60, h61]; exact q4 i hi⟩
theorem yS_k (h2 : σ1.1 62 = σ.1 62) (h3 : σ1.1 63 = σ.1 63) (hy : yS σ S) : yS σ1 S := fun k hk => by
  rw [h2, h3]
  exact hy k hk
theorem rL_hi (h : ∀ i, 48 ≤ i → i < 68 → sm3 σ σ1 i) (hr : rL σ F T bg w k man ps S) : rL σ1 F T bg w k man ps S := by
  have h48 := (h 48 (by omega) (by omega)).1
  exact ⟨mF_k (by rw [h48]) (fun i _ _ => h i (by omega) (by omega)) hr.1, mI_k (by rw [h48]) (h 52 (by omega) (by omega)).1 hr.2.1, rD_k (fun j _ => by rw [h48]) (h 60 (by omega) (by omega)).2.1 (h 61 (by omega) (by omega)).2.1 hr.2.2.1, yS_k (h 62 (by omega) (by omega)).1 (h 63 (by omega) (by omega)).1 hr.2.2.2⟩
/-- a search of the class changes nothing that is spoken of -/
theorem fO_W (h : fO σ σ1) : fW σ σ1 := ⟨fun i h1 _ h3 => h i h1 h3, (h 18 (by omega) (by omega)).1, fun j _ => by rw [(h 18 (by omega) (by omega)).2.1]⟩
theorem R0_W (h : fW σ σ1) (hr : R0 σ F T bg w k man ps S) : R0 σ1 F T bg w k man ps S := by
  obtain ⟨h1, h2, h3⟩ := h
  obtain ⟨o, ⟨c1, c2, c3, c4, c5⟩, r, e⟩ := hr
  exact ⟨o, ⟨cF_sm (fun i _ _ => h1 i (by omega) (by omega) (by omega)) c1, cS_sm (fun i _ _ => h1 i (by omega) (by omega) (by omega)) c2, cI_sm (h1 8 (by omega) (by omega) (by omega)) (h1 9 (by omega) (by omega) (by omega)) c3, cD_k (h1 15 (by omega) (by omega) (by omega)).1 (h1 16 (by omega) (by omega) (by omega)).2.1 (h1 17 (by omega) (by omega) (by omega)).2.1 h2 (h3 5 (by decide)) (h3 6 (by decide)) (h1 19 (by omega) (by omega) (by omega)).1 (h1 20 (by omega) (by omega) (by omega)).1 c4, cSl_sm (fun i _ _ => h1 i (by omega) (by omega) (by omega)) c5⟩, rL_hi (fun i _ _ => h1 i (by omega) (by omega) (by omega)) r, eR_sm (fun i _ _ => h1 i (by omega) (by omega) (by omega)) (h1 64 (by omega) (by omega) (by omega)).2.1 (h1 65 (by omega) (by omega) (by omega)).2.2 e⟩
/-- a question to the reference changes nothing that is spoken of -/
def rq (σ σ1 : mHp) : Prop := fm [15, 16, 18, 19, 23] σ σ1 ∧ ∀ i, i < 68 → i ≠ 48 → ¬ (53 ≤ i ∧ i < 60) → sm3 σ σ1 i
theorem rq_fr {lo hi : Nat} (h : fr lo hi σ σ1) (h1 : 53 ≤ lo) (h2 : hi ≤ 60) : rq σ σ1 := ⟨(fm_fr h (Or.inl (by omega))).wide (by simp), fun i _ _ h3 => h i (by omega)⟩
theorem rq_L (h : frL σ σ1) : rq σ σ1 := ⟨h.2.wide (by decide), fun i _ h1 _ => h.1 i (by omega)⟩
theorem rq_S (h : frS σ σ1) : rq σ σ1 := ⟨h.2, fun i _ h1 h2 => h.1 i (by
  simp only [List.mem_cons, List.not_mem_nil, or_false]
  omega)⟩
theorem R0_q (h : rq σ σ1) (hr : R0 σ F T bg w k man ps S) : R0 σ1 F T bg w k man ps S := by
  obtain ⟨hm, h1⟩ := h
  obtain ⟨o, c, ⟨r1, r2, r3, r4⟩, e⟩ := hr
  exact ⟨o, cL_lo (fun i _ => h1 i (by omega) (by omega) (by omega)) c, ⟨mF_k (hm 0 (by decide)).1 (fun i _ _ => h1 i (by omega) (by omega) (by omega)) r1, mI_k (hm 6 (by decide)).1 (h1 52 (by omega) (by omega) (by omega)).1 r2, rD_k (fun j hj => (hm j (by rcases hj with rfl | rfl | rfl | rfl <;> decide)).1) (h1 60 (by omega) (by omega) (by omega)).2.1 (h1 61 (by omega) (by omega) (by omega)).2.1 r3, yS_k (h1 62 (by omega) (by omega) (by omega)).1 (h1 63 (by omega) (by omega) (by omega)).1 r4⟩, eR_sm (fun i _ _ => h1 i (by omega) (by omega) (by omega)) (h1 64 (by omega) (by omega) (by omega)).2.1 (h1 65 (by omega) (by omega) (by omega)).2.2 e⟩
/-- formulas and input: the class's side, then the reference's -/
theorem R0_fx (hr : R0 σ F T bg w k man ps S) (h : fr 1 15 σ σ1) (h1 : cF σ1 F1) (h2 : cS σ1 F1) (h3 : cI σ1 T1) (h4 : fle F F1) : cL σ1 F1 T1 bg w k man ps S ∧ rL σ1 F T bg w k man ps S ∧ eR σ1 S := by
  obtain ⟨o, ⟨c1, c2, c3, c4, c5⟩, r, e⟩ := hr
  exact ⟨⟨h1, h2, h3, cD_sm (fun i _ _ => h i (by omega)) (cD_fle o.1 h4 o.2.2.1 c4), cSl_sm (fun i _ _ => h i (by omega)) c5⟩, rL_hi (fun i _ _ => h i (by omega)) r, eR_sm (fun i _ _ => h i (by omega)) (h 64 (by omega)).2.1 (h 65 (by omega)).2.2 e⟩
theorem R0_fy (hc : cL σ1 F1 T1 bg w k man ps S) (hr : rL σ1 F T bg w k man ps S) (he : eR σ1 S) (h : fr 48 60 σ1 σ2) (hm : fm [0, 4, 6, 7, 8, 9, 10] σ1 σ2) (h1 : mF σ2 F1) (h2 : mI σ2 T1) (ho : oK F1 T1 k man ps S) : R0 σ2 F1 T1 bg w k man ps S :=
  ⟨ho, cL_lo (fun i _ => h i (by omega)) hc, ⟨h1, h2, rD_k (fun j hj => (hm j (by rcases hj with rfl | rfl | rfl | rfl <;> decide)).1) (h 60 (by omega)).2.1 (h 61 (by omega)).2.1 hr.2.2.1, yS_k (h 62 (by omega)).1 (h 63 (by omega)).1 hr.2.2.2⟩, eR_sm (fun i _ _ => h i (by omega)) (h 64 (by omega)).2.1 (h 65 (by omega)).2.2 he⟩
/-- the dialogue -/
theorem R0_dx (hr : R0 σ F T bg w k man ps S) (h : fr 15 21 σ σ1) (h1 : cD σ1 F bg1 w1 k1 man1 ps1) : cL σ1 F T bg1 w1 k1 man1 ps1 S ∧ rL σ1 F T bg w k man ps S ∧ eR σ1 S := by
  obtain ⟨o, ⟨c1, c2, c3, c4, c5⟩, r, e⟩ := hr
  exact ⟨⟨cF_fr h (by omega) c1, cS_fr h (by omega) c2, cI_sm (h 8 (by omega)) (h 9 (by omega)) c3, h1, cSl_sm (fun i _ _ => h i (by omega)) c5⟩, rL_hi (fun i _ _ => h i (by omega)) r, eR_sm (fun i _ _ => h i (by omega)) (h 64 (by omega)).2.1 (h 65 (by omega)).2.2 e⟩
theorem R0_dy (hc : cL σ1 F T bg1 w1 k1 man1 ps1 S) (hr : rL σ1 F T bg w k man ps S) (he : eR σ1 S) (h : fq σ1 σ2) (hm : fm [15, 16, 17, 18, 19, 24, 25, 26] σ1 σ2) (h1 : mF σ2 F) (h2 : rD σ2 bg1 w1 k1 man1 ps1) (ho : oK F T k1 man1 ps1 S) : R0 σ2 F T bg1 w1 k1 man1 ps1 S :=
  ⟨ho, cL_lo (fun i _ => h.1 i (by omega)) hc, ⟨h1, mI_k (hm 6 (by decide)).1 h.2 hr.2.1, h2, yS_k (h.1 62 (by omega)).1 (h.1 63 (by omega)).1 hr.2.2.2⟩, eR_sm (fun i _ _ => h.1 i (by omega)) (h.1 64 (by omega)).2.1 (h.1 65 (by omega)).2.2 he⟩
theorem oK.fle (h : oK F T k man ps S) (h1 : fle F F1) (hf : fOk F1) (ht : T1.1 ≤ 40) : oK F1 T1 k man ps S := ⟨hf, ht, dOk_fle h1 h.2.2.1, h.2.2.2⟩
theorem oK.dlg (h : oK F T k man ps S) (hd : dOk F k1 man1 ps1) : oK F T k1 man1 ps1 S := ⟨h.1, h.2.1, hd, h.2.2.2⟩
theorem oK.slt (h : oK F T k man ps S) (hs : sOk S1) : oK F T k man ps S1 := ⟨h.1, h.2.1, h.2.2.1, hs⟩
end T
