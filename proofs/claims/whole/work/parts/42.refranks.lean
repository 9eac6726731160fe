/-! the reference: what is told of ranks -/
section G
variable {F : aF} {man : Nat}
theorem clo_mono {P Q : List aP} {p : aP} (h : pfx P Q) (hc : clo F man P p) : clo F man Q p := fun q hq x hx => h.mem (hc q hq x hx)
theorem bfs_clo : ∀ (n i : Nat) {P : List aP}, i + n = 302 → P.length ≤ 301 → i ≤ P.length → (P.length ≤ 300 → ∀ j, j < i → clo F man P (at0 P j)) → (bfs F man n i P).length ≤ 300 → ∀ j, j < (bfs F man n i P).length → clo F man (bfs F man n i P) (at0 (bfs F man n i P) j) := by
  intro n
  induction n with
  | zero => intro i P h1 h2 h3; omega
  | succ n ih =>
    intro i P h1 h2 h3 h4
    simp only [bfs]
    by_cases z : i < P.length ∧ P.length ≤ 300
    · rw [if_pos z]
      have hpf := meets_pfx (alR F man (at0 P i)) P
      refine ih (i + 1) (by omega) (meets_len _ h2) (by have := hpf.len; omega) (fun h5 j hj => ?_)
      rw [at0_pfx hpf (show j < P.length by omega)]
      rcases Nat.lt_or_ge j i with y | y
      · exact clo_mono hpf (h4 z.2 j y)
      · have e : j = i := by omega
        subst e
        exact fun q hq x hx => meets_mem _ h5 x (List.mem_flatMap.mpr ⟨q, hq, hx⟩)
    · rw [if_neg z]
      intro h5 j hj
      exact h4 h5 j (by omega)
/-- a rank has its move -/
theorem rk_mv {P : List aP} : ∀ (L i : Nat), rk F man P L i ≠ 0 → ∃ q ∈ mvs F (at0 P i).1 (at0 P i).2, ∀ x ∈ rps F man (at0 P i) q, 1 ≤ rk F man P L (ix P x) ∧ rk F man P L (ix P x) < rk F man P L i := by
  intro L
  induction L with
  | zero => intro i h; exact absurd rfl h
  | succ L ih =>
    intro i h
    by_cases z : rk F man P L i = 0 ∧ winB F man P (rk F man P L) (L + 1) i = true
    · have e : rk F man P (L + 1) i = L + 1 := by simp only [rk]; rw [if_pos z]
      have hw := z.2
      unfold winB at hw
      obtain ⟨q, hq, hx⟩ := List.any_eq_true.mp hw
      refine ⟨q, hq, fun x hx1 => ?_⟩
      have := of_decide_eq_true (List.all_eq_true.mp hx x hx1)
      rw [rk_keep (show rk F man P L (ix P x) ≠ 0 by omega), e]
      exact this
    · have e : rk F man P (L + 1) i = rk F man P L i := by simp only [rk]; rw [if_neg z]
      rw [e] at h
      obtain ⟨q, hq, hx⟩ := ih i h
      refine ⟨q, hq, fun x hx1 => ?_⟩
      have := hx x hx1
      rw [rk_keep (show rk F man P L (ix P x) ≠ 0 by omega), e]
      exact this
end G
section Q
variable (F : aF) (man : Nat)
/-- the positions after the attacks on a formula -/
def stp (f : Nat) : List aP := (List.range (atk (aK F f))).map (fun r => atP2 F man 0 0 f r)
def gB (P : List aP) : List aP := bfs F man 302 0 P
def gR (P : List aP) (i : Nat) : Nat := rk F man P P.length i
def hst (t : List Nat) : Int32 := if t = [] then -5 else if rbA 0 t = 0 then -5 else nI (rbA 0 t - 1)
def gS (f : Nat) : List aP := gB F man (meets [] (stp F man f))
def qRk (f : Nat) : Int32 := if 300 < (gS F man f).length then -6 else hst ((stp F man f).map (fun x => gR F man (gS F man f) (ix (gS F man f) x)))
def qRank (f m : Int32) : Int32 := if ¬ (0 ≤ f ∧ f < nI (aN F)) then -2 else if ¬ qMan m then -1 else qRk F m.toNatClampNeg f.toNatClampNeg
def qCnt (f m : Int32) : Int32 := if ¬ (0 ≤ f ∧ f < nI (aN F)) then -2 else if ¬ qMan m then -1 else if 300 < (gS F m.toNatClampNeg f.toNatClampNeg).length then -6 else nI (gS F m.toNatClampNeg f.toNatClampNeg).length
def qMns (f : Int32) : Int32 := if ¬ (0 ≤ f ∧ f < nI (aN F)) then -2 else if qRk F 1 f.toNatClampNeg = -6 ∨ qRk F 0 f.toNatClampNeg = -6 then -6 else (if 0 < qRk F 1 f.toNatClampNeg then 1 else 0) + (if 0 < qRk F 0 f.toNatClampNeg then 2 else 0)
end Q
theorem meets_nil_len {t : List aP} (h : t.length ≤ 2) : (meets [] t).length ≤ 2 := by
  match t, h with
  | [], _ => simp [meets]
  | [a], _ => simp [meets, addP]
  | [a, b], _ =>
    simp only [meets, addP]
    split <;> split <;> (try split) <;> simp_all
  | a :: b :: c :: t, h => simp at h
theorem gB_nd {F : aF} {man : Nat} {P : List aP} (h : nd P) : nd (gB F man P) := bfs_nd _ _ h
theorem gB_len {F : aF} {man : Nat} {P : List aP} (h : P.length ≤ 301) : (gB F man P).length ≤ 301 := bfs_len _ _ h
theorem gB_pfx {F : aF} {man : Nat} (P : List aP) : pfx P (gB F man P) := bfs_pfx _ _ _
theorem gB_clo {F : aF} {man : Nat} {P : List aP} (h : P.length ≤ 301) (hl : (gB F man P).length ≤ 300) : ∀ j, j < (gB F man P).length → clo F man (gB F man P) (at0 (gB F man P) j) := bfs_clo 302 0 (by omega) h (Nat.zero_le _) (fun _ j hj => by omega) hl
theorem stp_len (F : aF) (man f : Nat) : (stp F man f).length ≤ 2 := by
  unfold stp
  rw [List.length_map, List.length_range]
  exact atk_le _
theorem gS_mem {F : aF} {man f : Nat} (h : (gS F man f).length ≤ 300) {x : aP} (hx : x ∈ stp F man f) : x ∈ gS F man f := (gB_pfx _).mem (meets_mem _ (by have := (gB_pfx (F := F) (man := man) (meets [] (stp F man f))).len; have : (gB F man (meets [] (stp F man f))).length ≤ 300 := h; omega) x hx)
/-- the reference's manner is changed for a while -/
theorem frS_man {σ τ : mHp} {v : Int32} (h : frS (mWI σ 48 17 v) τ) : frS σ (mWI τ 48 17 (σ.1 48 17)) := by
  refine ⟨(fs.refl.WI (by decide)).trans h.1 |>.WI (by decide), fun k hk => ?_⟩
  have h1 := h.2 k hk
  constructor
  · by_cases z : k = 17
    · subst z; rw [WI_at, if_pos ⟨rfl, rfl⟩]
    · rw [WI_at, if_neg (fun y => z y.2), h1.1, WI_at, if_neg (fun y => z y.2)]
  · exact h1.2
theorem frS.mn {σ τ : mHp} {mn : Nat} (h : frS σ τ) (hman : σ.1 48 17 = nI mn) : τ.1 48 17 = nI mn := by rw [(h.2 17 (by decide)).1]; exact hman
section T
variable {g : mG} {l : Launch} {d : Nat} {lk : Nat} {ex : mSh} {σ : mHp} {F : aF} {man : Nat} {P : List aP}
theorem m_meetAfter (hf : fOk F) (hm : mF σ F) (hman : σ.1 48 17 = nI man) (hm1 : man ≤ 1) {f : Nat} (hfn : f < aN F) : mNR g l (d + 4) 164 [.ref 48, .int (nI f)] lk ex σ (.int (bI (decide ((gS F man f).length ≤ 300)))) (fun σ1 => frS σ σ1 ∧ sM σ1 (gS F man f) (fun _ => 0)) := by
  have hn := hf.2.1
  have ha := atk_le (aK F f)
  have ok : mOkP md_X9_meetAfter := ok_at 164 (by decide) rfl
  refine mC_of (md := md_X9_meetAfter) rfl (lt_at (by decide)) rfl ?_
  refine mGo_runS 7 (n := 400) ok rfl ?_
  have loop : ∀ m r, r + m = atk (aK F f) → ∀ (τ : mHp) (Q : List aP), frS σ τ → sM τ Q (fun _ => 0) → nd Q → Q.length ≤ 2 + r → mGo g l (d + 4) md_X9_meetAfter (SH lk ex).length (mTot (SH lk ex)) (7, [some (.ref 48), some (.int (nI f)), some (.int (nI r))], [], SH lk ex, τ) (fun r1 sp σ1 => r1 = some (.int (bI (decide ((gB F man (meets Q ((List.range' r m).map (fun r => atP2 F man 0 0 f r)))).length ≤ 300)))) ∧ sp = SH lk ex ∧ (frS σ σ1 ∧ sM σ1 (gB F man (meets Q ((List.range' r m).map (fun r => atP2 F man 0 0 f r)))) (fun _ => 0))) := by
    intro m
    induction m with
    | zero =>
      intro r hr τ Q t s n1 n2
      refine mGo_run (n := 400) ok rfl ?_
      refine mGo_callP ok rfl (by omega) (m_attacksOn (d := d) hf (t.mF hm) hfn) ?_
      refine mGo_ifI ok rfl (nI_leI (a := atk (aK F f)) (b := r) (by omega) (by omega)) (fun h => ?_) (fun h => ?_)
      · refine mGo_run (n := 400) ok rfl ?_
        refine mGo_callR ok rfl (by omega) (m_meetAll (d := d) hf (t.mF hm) (t.mn hman) hm1 s n1 (by omega)) (fun σ1 hσ1 => ?_)
        refine mGo_run (n := 400) ok rfl ?_
        exact mGo_ret ok rfl ((by show bI _ = 0 ∨ bI _ = 1; cases decide ((bfs F man 302 0 Q).length ≤ 300); exact Or.inl rfl; exact Or.inr rfl)) (⟨rfl, rfl, t.trans hσ1.1, hσ1.2⟩)
      · omega
    | succ m ih =>
      intro r hr τ Q t s n1 n2
      have k0 : aK F f ≠ 0 := fun z => by rw [z] at hr; simp [atk] at hr
      refine mGo_run (n := 400) ok rfl ?_
      refine mGo_callP ok rfl (by omega) (m_attacksOn (d := d) hf (t.mF hm) hfn) ?_
      refine mGo_ifI ok rfl (nI_leI (a := atk (aK F f)) (b := r) (by omega) (by omega)) (fun h => ?_) (fun h => ?_)
      · omega
      · refine mGo_run (n := 400) ok rfl ?_
        have t0 := t.trans (frS_now (σ := τ) 0 0)
        refine mGo_callV ok rfl (by omega) (m_attack (d := d) hf (t0.mF hm) (c := 0) (o := 0) ⟨by simp [WL_at], by simp [WL_at]⟩ (t0.mn hman) hm1 hfn k0 (r := r) (by omega)) (fun τ1 hτ1 => ?_)
        have t1 := t0.trans (frS_48 hτ1.1 hτ1.2.1 (by decide))
        have s1 := sM_L hτ1.1 (hτ1.2.1.wide (by decide)) (sM_now 0 0 s)
        refine mGo_run (n := 400) ok rfl ?_
        refine mGo_callV ok rfl (by omega) (m_meet (d := d) s1 n1 (by omega) hτ1.2.2) (fun τ2 hτ2 => ?_)
        refine mGo_runS 7 (n := 400) ok rfl ?_
        rw [nI_1]
        exact ih (r + 1) (by omega) τ2 _ (t1.trans hτ2.1) hτ2.2.2 (addP_nd n1 _) (by
          unfold addP
          split
          · omega
          · split
            · simp; omega
            · omega)
  have := loop (atk (aK F f)) 0 (by omega) (mWI σ 48 23 0) [] ⟨fs.refl.WI (by decide), fm.refl.WI (fun _ => by decide)⟩ ⟨by rw [WI_at, if_pos ⟨rfl, rfl⟩]; rfl, fun i p hp => by simp at hp⟩ nd_nil (by simp)
  rw [← range_r] at this
  exact this
end T
