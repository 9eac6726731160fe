/-! the reference: ranks -/
def rbA : Nat → List Nat → Nat
  | a, [] => a + 1
  | a, x :: t => if x = 0 then 0 else rbA (if a < x then x else a) t
theorem rbA_iff : ∀ (t : List Nat) (a L : Nat), rbA a t = L + 1 ↔ a ≤ L ∧ (∀ x ∈ t, 1 ≤ x ∧ x ≤ L) ∧ (a = L ∨ L ∈ t) := by
  intro t
  induction t with
  | nil => intro a L; simp [rbA]; omega
  | cons x t ih =>
    intro a L
    simp only [rbA]
    by_cases h : x = 0
    · rw [if_pos h]
      constructor
      · intro z; omega
      · rintro ⟨_, h2, _⟩
        have := h2 x List.mem_cons_self
        omega
    · rw [if_neg h, ih]
      constructor
      · rintro ⟨h1, h2, h3⟩
        by_cases hx : a < x
        · rw [if_pos hx] at h1 h3
          refine ⟨by omega, fun y hy => ?_, ?_⟩
          · rcases List.mem_cons.mp hy with rfl | hy
            · exact ⟨by omega, by omega⟩
            · exact h2 y hy
          · rcases h3 with z | z
            · exact Or.inr (by rw [← z]; exact List.mem_cons_self)
            · exact Or.inr (List.mem_cons_of_mem _ z)
        · rw [if_neg hx] at h1 h3
          refine ⟨by omega, fun y hy => ?_, ?_⟩
          · rcases List.mem_cons.mp hy with rfl | hy
            · exact ⟨by omega, by omega⟩
            · exact h2 y hy
          · rcases h3 with z | z
            · exact Or.inl z
            · exact Or.inr (List.mem_cons_of_mem _ z)
      · rintro ⟨h1, h2, h3⟩
        have hx := h2 x List.mem_cons_self
        refine ⟨by split <;> omega, fun y hy => h2 y (List.mem_cons_of_mem _ hy), ?_⟩
        rcases h3 with z | z
        · rw [if_neg (by omega)]; exact Or.inl z
        · rcases List.mem_cons.mp z with y | y
          · by_cases w : a < x
            · rw [if_pos w]; exact Or.inl y.symm
            · rw [if_neg w]; exact Or.inl (by omega)
          · exact Or.inr y
theorem rbA_le : ∀ (t : List Nat) (a B : Nat), a ≤ B → (∀ x ∈ t, x ≤ B) → rbA a t ≤ B + 1 := by
  intro t
  induction t with
  | nil => intro a B h _; simp [rbA]; omega
  | cons x t ih =>
    intro a B h h2
    simp only [rbA]
    split
    · omega
    · have := h2 x List.mem_cons_self
      exact ih _ B (by split <;> omega) (fun y hy => h2 y (List.mem_cons_of_mem _ hy))
theorem nI_max {a b : Nat} (ha : a < 2 ^ 31) (hb : b < 2 ^ 31) : (if nI a < nI b then nI b else nI a) = nI (if a < b then b else a) := by
  by_cases h : a < b
  · rw [if_pos h, if_pos (nI_lt h hb)]
  · rw [if_neg h, if_neg (nI_nlt (by omega) ha)]
section T
variable {g : mG} {l : Launch} {d : Nat} {lk : Nat} {ex : mSh} {σ : mHp} {F : aF} {man : Nat} {P : List aP} {R : Nat → Nat}
theorem m_rankBy (hf : fOk F) (hm : mF σ F) (hman : σ.1 48 17 = nI man) (hm1 : man ≤ 1) (hs : sM σ P R) (hn : nd P) (hl : P.length ≤ 301) (hR : ∀ i, i < P.length → R i ≤ 400) {i k : Nat} (hi : i < P.length) (hc : clo F man P (at0 P i)) {q : Nat × Nat} (hq : (mvs F (at0 P i).1 (at0 P i).2)[k]? = some q) : mNR g l (d + 2) 162 [.ref 48, .int (nI i), .int (nI k)] lk ex σ (.int (nI (rbA 0 ((rps F man (at0 P i) q).map (fun x => R (ix P x)))))) (frL σ) := by
  have ho := mvs_at hf hq
  have hr3 := rpN_le F q
  have hmem := List.mem_of_getElem? hq
  have ok : mOkP md_X9_rankBy := ok_at 162 (by decide) rfl
  refine mC_of (md := md_X9_rankBy) rfl (lt_at (by decide)) rfl ?_
  refine mGo_run (n := 400) ok rfl ?_
  refine mGo_callV ok rfl (by omega) (m_stand (d := d) hs hl hi) (fun τ1 hτ1 => ?_)
  have t1 : frL σ τ1 := by rw [hτ1]; exact frL_now _ _
  have q1 : mQ τ1 (at0 P i).1 (at0 P i).2 := by rw [hτ1]; exact ⟨by simp [WL_at], by simp [WL_at]⟩
  clear hτ1
  refine mGo_run (n := 400) ok rfl ?_
  refine mGo_callR ok rfl (by omega) (m_find1 (d := d) hf (t1.mF hm) q1 hq) (fun τ2 hτ2 => ?_)
  have t2 : frL σ τ2 := by rw [hτ2]; exact t1.trans (frL_mv _ _)
  have v2 : mV τ2 q := by rw [hτ2]; exact mV_mk q
  clear hτ2
  refine mGo_run (n := 400) ok rfl ?_
  refine mGo_callP ok rfl (by omega) (m_countReplies (d := d) hf (t2.mF hm) v2 ho) ?_
  refine mGo_runS 22 (n := 400) ok rfl ?_
  have loop : ∀ m r, r + m = rpN F q → ∀ (τ : mHp) (a : Nat) (L6 : Option Value), a ≤ 400 → frL σ τ → mV τ q → mGo g l (d + 2) md_X9_rankBy (SH lk ex).length (mTot (SH lk ex)) (22, [some (.ref 48), some (.int (nI i)), some (.int (nI k)), some (.int (nI (rpN F q))), some (.int (nI a)), some (.int (nI r)), L6], [], SH lk ex, τ) (fun r1 sp σ1 => r1 = some (.int (nI (rbA a (((List.range' r m).map (fun r => rpP F man (at0 P i).1 (at0 P i).2 q r)).map (fun x => R (ix P x)))))) ∧ sp = SH lk ex ∧ frL σ σ1) := by
    intro m
    induction m with
    | zero =>
      intro r hr τ a L6 ha t v
      refine mGo_run (n := 400) ok rfl ?_
      refine mGo_ifI ok rfl (nI_leI (a := rpN F q) (b := r) (by omega) (by omega)) (fun h => ?_) (fun h => ?_)
      · refine mGo_run (n := 400) ok rfl ?_
        rw [nI_1]
        exact mGo_ret ok rfl trivial (⟨rfl, rfl, t⟩)
      · omega
    | succ m ih =>
      intro r hr τ a L6 ha t v
      have hx : rpP F man (at0 P i).1 (at0 P i).2 q r ∈ P := hc q hmem _ (List.mem_map.mpr ⟨r, List.mem_range.mpr (by omega), rfl⟩)
      have hxl := ix_lt hx
      have hRx := hR _ hxl
      refine mGo_run (n := 400) ok rfl ?_
      refine mGo_ifI ok rfl (nI_leI (a := rpN F q) (b := r) (by omega) (by omega)) (fun h => ?_) (fun h => ?_)
      · omega
      · refine mGo_run (n := 400) ok rfl ?_
        refine mGo_callV ok rfl (by omega) (m_stand (d := d) (sM_L t.1 t.2 hs) hl hi) (fun τ3 hτ3 => ?_)
        have t3 : frL σ τ3 := by rw [hτ3]; exact t.trans (frL_now _ _)
        have q3 : mQ τ3 (at0 P i).1 (at0 P i).2 := by rw [hτ3]; exact ⟨by simp [WL_at], by simp [WL_at]⟩
        have v3 : mV τ3 q := by rw [hτ3]; exact v
        clear hτ3
        refine mGo_run (n := 400) ok rfl ?_
        refine mGo_callV ok rfl (by omega) (m_reply (d := d) hf (t3.mF hm) q3 (by rw [(t3.2 17 (by decide)).1]; exact hman) hm1 v3 ho (r := r) (by omega)) (fun τ4 hτ4 => ?_)
        have t4 : frL σ τ4 := t3.trans ⟨hτ4.1, hτ4.2.1.wide (by decide)⟩
        have v4 : mV τ4 q := ⟨by rw [(hτ4.2.1 18 (by decide)).1]; exact v3.1, by rw [(hτ4.2.1 19 (by decide)).1]; exact v3.2⟩
        have s4 := sM_L t4.1 t4.2 hs
        have r4 := (s4.2 _ _ (ix_at hx)).2.2
        refine mGo_run (n := 400) ok rfl ?_
        rw [hτ4.2.2.1, hτ4.2.2.2]
        refine mGo_callP ok rfl (by omega) (m_placeOf (d := d) s4 hn hl (rpP F man (at0 P i).1 (at0 P i).2 q r)) ?_
        rw [if_pos hx]
        refine mGo_side ok rfl (nI_in (by omega) (by omega)) ?_
        rw [nI_clamp (n := ix P (rpP F man (at0 P i).1 (at0 P i).2 q r)) (by omega), r4]
        refine mGo_run (n := 400) ok rfl ?_
        show mGo _ _ _ _ _ _ _ (fun r1 sp σ1 => r1 = some (.int (nI (if R (ix P (rpP F man (at0 P i).1 (at0 P i).2 q r)) = 0 then 0 else rbA (if a < R (ix P (rpP F man (at0 P i).1 (at0 P i).2 q r)) then R (ix P (rpP F man (at0 P i).1 (at0 P i).2 q r)) else a) (((List.range' (r + 1) m).map (fun r => rpP F man (at0 P i).1 (at0 P i).2 q r)).map (fun x => R (ix P x)))))) ∧ sp = SH lk ex ∧ frL σ σ1)
        refine mGo_ifI ok rfl (nI_eq (a := R (ix P (rpP F man (at0 P i).1 (at0 P i).2 q r))) (b := 0) (by omega) (by omega)) (fun h1 => ?_) (fun h1 => ?_)
        · rw [if_pos h1]
          refine mGo_run (n := 400) ok rfl ?_
          exact mGo_ret ok rfl trivial (⟨rfl, rfl, t4⟩)
        · rw [if_neg h1]
          refine mGo_run (n := 400) ok rfl ?_
          refine mGo_callP ok rfl (by omega) (c_max (d := d) (nI a) (nI (R (ix P (rpP F man (at0 P i).1 (at0 P i).2 q r))))) ?_
          rw [nI_max (by omega) (by omega)]
          refine mGo_runS 22 (n := 400) ok rfl ?_
          rw [nI_1]
          exact ih (r + 1) (by omega) τ4 _ _ (by split <;> omega) t4 v4
  have := loop (rpN F q) 0 (by omega) τ2 0 none (by omega) t2 v2
  rw [← range_r] at this
  exact this
/-- during a round: the ranks of the first i are new -/
def mid (F : aF) (man : Nat) (P : List aP) (L i : Nat) (j : Nat) : Nat := if j < i then rk F man P (L + 1) j else rk F man P L j
theorem mid_le {L i j : Nat} : mid F man P L i j ≤ L + 1 := by
  unfold mid
  split
  · exact rk_le _ _
  · have := rk_le (F := F) (man := man) (P := P) L j; omega
theorem mid_iff {L i j x : Nat} (hx : x ≤ L) (h1 : 1 ≤ x) : mid F man P L i j = x ↔ rk F man P L j = x := by
  unfold mid
  by_cases z : j < i
  · rw [if_pos z]
    simp only [rk]
    have := rk_le (F := F) (man := man) (P := P) L j
    by_cases y : rk F man P L j = 0 ∧ winB F man P (rk F man P L) (L + 1) j = true
    · rw [if_pos y]; omega
    · rw [if_neg y]
  · rw [if_neg z]
/-- a move gives the rank L + 1 just if all its replies are below -/
theorem rb_win {L i : Nat} {p : aP} {q : Nat × Nat} (h0 : rk F man P L i = 0) (hp : p = at0 P i) (hq : q ∈ mvs F p.1 p.2) : rbA 0 ((rps F man p q).map (fun x => mid F man P L i (ix P x))) = L + 1 ↔ (rps F man p q).all (fun x => decide (1 ≤ rk F man P L (ix P x) ∧ rk F man P L (ix P x) < L + 1)) = true := by
  subst hp
  have key : ∀ j, (1 ≤ mid F man P L i j ∧ mid F man P L i j ≤ L) ↔ (1 ≤ rk F man P L j ∧ rk F man P L j < L + 1) := by
    intro j
    constructor
    · rintro ⟨h1, h2⟩
      have := (mid_iff (F := F) (man := man) (P := P) (i := i) (j := j) h2 h1).mp rfl
      omega
    · rintro ⟨h1, h2⟩
      have := (mid_iff (F := F) (man := man) (P := P) (i := i) (j := j) (x := rk F man P L j) (by omega) h1).mpr rfl
      omega
  rw [rbA_iff, List.all_eq_true]
  constructor
  · rintro ⟨h1, h2, h3⟩ x hx
    have := h2 _ (List.mem_map.mpr ⟨x, hx, rfl⟩)
    exact decide_eq_true ((key _).mp this)
  · intro h
    refine ⟨Nat.zero_le _, fun y hy => ?_, ?_⟩
    · obtain ⟨x, hx, rfl⟩ := List.mem_map.mp hy
      exact (key _).mpr (of_decide_eq_true (h x hx))
    · cases L with
      | zero => exact Or.inl rfl
      | succ L =>
        right
        apply Classical.byContradiction
        intro hno
        have hw : winB F man P (rk F man P (L + 1)) (L + 1) i = true := by
          unfold winB
          rw [List.any_eq_true]
          refine ⟨q, hq, List.all_eq_true.mpr (fun x hx => ?_)⟩
          have h1 := of_decide_eq_true (h x hx)
          refine decide_eq_true ⟨h1.1, ?_⟩
          have h2 : rk F man P (L + 1) (ix P x) ≠ L + 1 := fun z => hno (List.mem_map.mpr ⟨x, hx, (mid_iff (by omega) (by omega)).mpr z⟩)
          omega
        rw [rk_not h0] at hw
        cases hw
end T
