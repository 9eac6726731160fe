/-! the reference reads a text -/
def rS (σ : mHp) (T : aI) (k : Nat) (flt : Option Nat) (mk : Bool) (F : aF) (fl : Bool) : Prop := σ.1 48 7 = nI k ∧ σ.1 48 8 = nI T.1 ∧ σ.1 48 9 = oF flt ∧ σ.1 48 10 = bI mk ∧ mF σ F ∧ (mk = true → σ.1 48 4 = bI fl) ∧ fOk F ∧ (∀ i, i < T.1 → σ.1 52 i = T.2 i) ∧ k ≤ T.1 ∧ T.1 ≤ 40 ∧ ∀ e, flt = some e → e ≤ 40
/-- what reading changes -/
def fR (σ σ1 : mHp) : Prop := fr 48 52 σ σ1 ∧ fm [0, 4, 7, 9, 10] σ σ1
theorem fR.refl {σ : mHp} : fR σ σ := ⟨fr.refl, fm.refl⟩
theorem fR.trans {σ σ1 σ2 : mHp} (h1 : fR σ σ1) (h2 : fR σ1 σ2) : fR σ σ2 := ⟨h1.1.trans h2.1, h1.2.trans h2.2⟩
theorem fR.W {σ σ1 : mHp} {k : Nat} {v : Int32} (h : fR σ σ1) (hk : k ∈ [0, 4, 7, 9, 10]) : fR σ (mWI σ1 48 k v) := ⟨h.1.WI (by decide) (by decide), h.2.WI (fun _ => hk)⟩
theorem mF_W {σ : mHp} {F : aF} {k : Nat} {v : Int32} (h : mF σ F) (hk : k ≠ 0) : mF (mWI σ 48 k v) F := by
  refine ⟨by rw [WI_at, if_neg (fun z => hk z.2.symm)]; exact h.1, fun j hj => ?_⟩
  obtain ⟨a, b, c⟩ := h.2 j hj
  exact ⟨by rw [WI_at, if_neg (by omega)]; exact a, by rw [WI_at, if_neg (by omega)]; exact b, by rw [WI_at, if_neg (by omega)]; exact c⟩
theorem rS_at {σ : mHp} {T : aI} {k k1 : Nat} {flt : Option Nat} {mk fl : Bool} {F : aF} (h : rS σ T k flt mk F fl) (h1 : k1 ≤ T.1) : rS (mWI σ 48 7 (nI k1)) T k1 flt mk F fl := by
  obtain ⟨a1, a2, a3, a4, a5, a6, a7, a8, a9, a10, a11⟩ := h
  refine ⟨by rw [WI_at, if_pos ⟨rfl, rfl⟩], ?_, ?_, ?_, mF_W a5 (by omega), fun z => ?_, a7, fun i hi => ?_, h1, a10, a11⟩
  · rw [WI_at, if_neg (by omega)]; exact a2
  · rw [WI_at, if_neg (by omega)]; exact a3
  · rw [WI_at, if_neg (by omega)]; exact a4
  · rw [WI_at, if_neg (by omega)]; exact a6 z
  · rw [WI_at, if_neg (by omega)]; exact a8 i hi
theorem rS_fault {σ : mHp} {T : aI} {k : Nat} {flt : Option Nat} {mk fl : Bool} {F : aF} (h : rS σ T k flt mk F fl) : rS (mWI σ 48 9 (nI k)) T k (some k) mk F fl := by
  obtain ⟨a1, a2, a3, a4, a5, a6, a7, a8, a9, a10, a11⟩ := h
  refine ⟨?_, ?_, by rw [WI_at, if_pos ⟨rfl, rfl⟩]; rfl, ?_, mF_W a5 (by omega), fun z => ?_, a7, fun i hi => ?_, a9, a10, fun e he => by cases he; omega⟩
  · rw [WI_at, if_neg (by omega)]; exact a1
  · rw [WI_at, if_neg (by omega)]; exact a2
  · rw [WI_at, if_neg (by omega)]; exact a4
  · rw [WI_at, if_neg (by omega)]; exact a6 z
  · rw [WI_at, if_neg (by omega)]; exact a8 i hi
section T
variable {g : mG} {l : Launch} {d : Nat} {lk : Nat} {ex : mSh} {σ : mHp} {T : aI} {F : aF} {k : Nat} {flt : Option Nat} {mk fl : Bool}
/-- the sign at hand is the one -/
theorem m_goes1 (h : rS σ T k none mk F fl) {c : Int32} (hk : k < T.1) (hc : T.2 k = c) : mNR g l d 126 [.ref 48, .int c] lk ex σ (.int 1) (fun σ1 => fR σ σ1 ∧ rS σ1 T (k + 1) none mk F fl) := by
  have h0 := h
  obtain ⟨a1, a2, a3, a4, a5, a6, a7, a8, a9, a10, a11⟩ := h0
  have ok : mOkP md_X9_goes := ok_at 126 (by decide) rfl
  refine mC_of (md := md_X9_goes) rfl (lt_at (by decide)) rfl ?_
  refine mGo_run (n := 400) ok rfl ?_
  rw [a3]
  refine mGo_if ok rfl (fun h1 => ?_) (fun h1 => ?_)
  · exact absurd h1 (by decide)
  · refine mGo_run (n := 400) ok rfl ?_
    rw [a1, a2]
    refine mGo_ifI ok rfl (nI_leI (a := T.1) (b := k) (by omega) (by omega)) (fun h2 => ?_) (fun h2 => ?_)
    · omega
    · refine mGo_run (n := 400) ok rfl ?_
      rw [a1]
      refine mGo_side ok rfl (nI_in (by omega) (by omega)) ?_
      rw [nI_clamp (n := k) (by omega), a8 k hk]
      refine mGo_run (n := 400) ok rfl ?_
      refine mGo_if ok rfl (fun h3 => ?_) (fun h3 => ?_)
      · refine mGo_run (n := 400) ok rfl ?_
        refine mGo_if ok rfl (fun h4 => ?_) (fun h4 => ?_)
        · exact absurd h4 (by decide)
        · refine mGo_run (n := 400) ok rfl ?_
          rw [a1, nI_1]
          exact mGo_ret ok rfl (Or.inr rfl) (⟨rfl, rfl, fR.refl.W (by decide), rS_at h (by omega)⟩)
      · exact absurd hc h3
theorem m_goes0 (h : rS σ T k flt mk F fl) {c : Int32} (hk : flt = none → k < T.1 → T.2 k ≠ c) : mNR g l d 126 [.ref 48, .int c] lk ex σ (.int 0) (fun σ1 => fR σ σ1 ∧ rS σ1 T k flt mk F fl) := by
  have h0 := h
  obtain ⟨a1, a2, a3, a4, a5, a6, a7, a8, a9, a10, a11⟩ := h0
  have ok : mOkP md_X9_goes := ok_at 126 (by decide) rfl
  refine mC_of (md := md_X9_goes) rfl (lt_at (by decide)) rfl ?_
  have no : ∀ L2 : Option Value, mGo g l d md_X9_goes (SH lk ex).length (mTot (SH lk ex)) (35, [some (.ref 48), some (.int c), L2], [], SH lk ex, σ) (fun r sp σ1 => r = some (.int 0) ∧ sp = SH lk ex ∧ (fR σ σ1 ∧ rS σ1 T k flt mk F fl)) := by
    intro L2
    refine mGo_run (n := 400) ok rfl ?_
    refine mGo_if ok rfl (fun h4 => ?_) (fun h4 => ?_)
    · refine mGo_run (n := 400) ok rfl ?_
      rw [a1, show nI k + 0 = nI k by simp]
      exact mGo_ret ok rfl (Or.inl rfl) (⟨rfl, rfl, fR.refl.W (by decide), rS_at h (by omega)⟩)
    · exact absurd rfl h4
  refine mGo_run (n := 400) ok rfl ?_
  rw [a3]
  refine mGo_if ok rfl (fun h1 => ?_) (fun h1 => ?_)
  · exact no _
  · have e : flt = none := by
      cases flt with
      | none => rfl
      | some e => exact absurd (nI_pos' (by have := a11 e rfl; omega)) h1
    refine mGo_run (n := 400) ok rfl ?_
    rw [a1, a2]
    refine mGo_ifI ok rfl (nI_leI (a := T.1) (b := k) (by omega) (by omega)) (fun h2 => ?_) (fun h2 => ?_)
    · exact no _
    · refine mGo_run (n := 400) ok rfl ?_
      rw [a1]
      refine mGo_side ok rfl (nI_in (by omega) (by omega)) ?_
      rw [nI_clamp (n := k) (by omega), a8 k (by omega)]
      refine mGo_run (n := 400) ok rfl ?_
      refine mGo_if ok rfl (fun h3 => ?_) (fun h3 => ?_)
      · exact absurd h3 (hk e (by omega))
      · exact no _
theorem m_made (h : rS σ T k flt mk F fl) {c a b : Nat} (hc : 1 ≤ c ∧ c ≤ 4) (ha : a < aN F) (hb : b < aN F) (hb1 : c = 1 → b = 0) : mNR g l (d + 1) 127 [.ref 48, .int (nI c), .int (nI a), .int (nI b)] lk ex σ (.int (nI (mdP mk F fl c a b).1)) (fun σ1 => fR σ σ1 ∧ rS σ1 T k flt mk (mdP mk F fl c a b).2.1 (mdP mk F fl c a b).2.2) := by
  have h0 := h
  obtain ⟨a1, a2, a3, a4, a5, a6, a7, a8, a9, a10, a11⟩ := h0
  have ok : mOkP md_X9_made := ok_at 127 (by decide) rfl
  refine mC_of (md := md_X9_made) rfl (lt_at (by decide)) rfl ?_
  refine mGo_run (n := 400) ok rfl ?_
  rw [a4]
  refine mGo_ifI ok rfl (bI_0) (fun h1 => ?_) (fun h1 => ?_)
  · subst h1
    refine mGo_run (n := 400) ok rfl ?_
    exact mGo_ret ok rfl trivial (⟨rfl, rfl, fR.refl, h⟩)
  · have e : mk = true := by simpa using h1
    subst e
    refine mGo_run (n := 400) ok rfl ?_
    refine mGo_callR ok rfl (by omega) (m_make (d := d) a7 a5 (a6 rfl) hc ha hb) (fun τ1 hτ1 => ?_)
    obtain ⟨g1, g2, g3, g4⟩ := hτ1
    refine mGo_run (n := 400) ok rfl ?_
    exact mGo_ret ok rfl trivial (⟨rfl, rfl, ⟨g1, g2.wide (by decide)⟩, ⟨by rw [(g2 7 (by decide)).1]; exact a1, by rw [(g2 8 (by decide)).1]; exact a2, by rw [(g2 9 (by decide)).1]; exact a3, by rw [(g2 10 (by decide)).1]; exact a4, g3, fun _ => g4, (aMm_ok a7 fl hc ha hb hb1).1, fun i hi => by rw [(g1 52 (by omega)).1]; exact a8 i hi, a9, a10, a11⟩⟩)
end T
def fleM (mk : Bool) (F F1 : aF) : Prop := fle F F1 ∧ (mk = false → F1 = F)
theorem fleM.refl {mk : Bool} {F : aF} : fleM mk F F := ⟨fle.refl, fun _ => rfl⟩
theorem fleM.trans {mk : Bool} {F F1 F2 : aF} (h1 : fleM mk F F1) (h2 : fleM mk F1 F2) : fleM mk F F2 := ⟨h1.1.trans h2.1, fun z => (h2.2 z).trans (h1.2 z)⟩
theorem mdP_ok2 {F : aF} (hf : fOk F) (mk fl : Bool) {k a b : Nat} (hk : 1 ≤ k ∧ k ≤ 4) (ha : a < aN F) (hb : b < aN F) (hb1 : k = 1 → b = 0) : fOk (mdP mk F fl k a b).2.1 ∧ (mdP mk F fl k a b).1 < aN (mdP mk F fl k a b).2.1 ∧ fleM mk F (mdP mk F fl k a b).2.1 := by
  obtain ⟨m1, m2, m3⟩ := mdP_ok hf mk fl hk ha hb hb1
  exact ⟨m1, m2, m3, fun z => by subst z; rfl⟩
/-- what reading from k on comes to -/
def rQ (T : aI) (p t dp k : Nat) (mk : Bool) (F : aF) (fl : Bool) (σ : mHp) (r : Option Value) (σ1 : mHp) : Prop := ∃ (v k1 : Nat) (flt : Option Nat) (F1 : aF) (fl1 : Bool), r = some (.int (nI v)) ∧ fR σ σ1 ∧ rS σ1 T k1 flt mk F1 fl1 ∧ v < aN F1 ∧ fleM mk F F1 ∧ rel T p t dp k mk F fl v k1 flt F1 fl1
def RC (g : mG) (l : Launch) (lk : Nat) (ex : mSh) (T : aI) (a p t D m : Nat) : Prop := ∀ (d : Nat) (σ : mHp) (dp k : Nat) (mk fl : Bool) (F : aF), k + m = T.1 → rS σ T k none mk F fl → (mk = true → AF T true dp k (T.1 - k) = none) → mC g l (d + 4 * m + D) a [.ref 48] (SH lk ex) σ (fun r sp σ1 => sp = SH lk ex ∧ rQ T p t dp k mk F fl σ r σ1)
theorem at4 {j : Nat} (hj : j < 4) : (((112 : Int32) + nI j).toUInt32 % 65536).toInt32 = nI (112 + j) ∧ cls (nI (112 + j)) = 5 ∧ (nI (112 + j) - 112).toNatClampNeg = j := by
  match j, hj with
  | 0, _ => decide
  | 1, _ => decide
  | 2, _ => decide
  | 3, _ => decide
  | n + 4, h => omega
section T
variable {g : mG} {l : Launch} {lk : Nat} {ex : mSh} {T : aI}
set_option maxHeartbeats 1000000 in
theorem m_simple {m : Nat} (hs : ∀ m1, m1 < m → RC g l lk ex T 131 1 0 3 m1) (hi : ∀ m1, m1 < m → RC g l lk ex T 128 4 3 6 m1) : RC g l lk ex T 131 1 0 3 m := by
  intro d σ dp k mk fl F hkm h hmk
  have hT : T.1 ≤ 40 := h.2.2.2.2.2.2.2.2.2.1
  have ok : mOkP md_X9_readSimple := ok_at 131 (by decide) rfl
  refine mC_of (md := md_X9_readSimple) rfl (lt_at (by decide)) rfl ?_
  by_cases c1 : k < T.1 ∧ cls (T.2 k) = 1
  · refine mGo_run (n := 400) ok rfl ?_
    refine mGo_callR ok rfl (by omega) (m_goes1 (d := d) h c1.1 ((cls_op _).1.mp c1.2)) (fun τ1 hτ1 => ?_)
    obtain ⟨g1, g2⟩ := hτ1
    refine mGo_if ok rfl (fun h1 => ?_) (fun h1 => ?_)
    · exact absurd h1 (by decide)
    · refine mGo_run (n := 400) ok rfl ?_
      have hA : AF T true dp k (T.1 - k) = AF T true dp (k + 1) (T.1 - (k + 1)) := by
        rw [show T.1 - k = (T.1 - (k + 1)) + 1 by omega]
        simp only [AF]
        rw [if_neg (by omega), if_neg (by omega), if_pos c1.2]
      refine mGo_call ok rfl (by omega) (hs (m - 1) (by omega) d τ1 dp (k + 1) mk fl F (by omega) g2 (fun z => by rw [← hA]; exact hmk z)) (fun r sp τ2 hq => ?_)
      obtain ⟨rfl, v, k1, flt, F1, fl1, rfl, q1, q2, q3, q4, q5⟩ := hq
      have hf1 := q2.2.2.2.2.2.2.1
      refine mGo_run (n := 400) ok rfl ?_
      refine mGo_callR ok rfl (by omega) (m_made (d := d) q2 (c := 1) (a := v) (b := 0) (by omega) q3 (by have := hf1.1; omega) (fun _ => rfl)) (fun τ3 hτ3 => ?_)
      have mo := mdP_ok2 hf1 mk fl1 (k := 1) (a := v) (b := 0) (by omega) q3 (by have := hf1.1; omega) (fun _ => rfl)
      refine mGo_run (n := 400) ok rfl ?_
      exact mGo_ret ok rfl trivial (⟨rfl, _, k1, flt, _, _, rfl, (g1.trans q1).trans hτ3.1, hτ3.2, mo.2.1, q4.trans mo.2.2, rel_neg c1.1 c1.2 q5 hmk hf1⟩)
  · refine mGo_run (n := 400) ok rfl ?_
    refine mGo_callR ok rfl (by omega) (m_goes0 (d := d) h (c := 126) (fun _ hk z => c1 ⟨hk, (cls_op _).1.mpr z⟩)) (fun τ1 hτ1 => ?_)
    obtain ⟨g1, g2⟩ := hτ1
    refine mGo_if ok rfl (fun h1 => ?_) (fun h1 => ?_)
    · by_cases c6 : k < T.1 ∧ cls (T.2 k) = 6
      · refine mGo_run (n := 400) ok rfl ?_
        refine mGo_callR ok rfl (by omega) (m_goes1 (d := d) g2 c6.1 ((cls_40 _).mp c6.2)) (fun τ2 hτ2 => ?_)
        obtain ⟨g3, g4⟩ := hτ2
        refine mGo_if ok rfl (fun h2 => ?_) (fun h2 => ?_)
        · exact absurd h2 (by decide)
        · refine mGo_run (n := 400) ok rfl ?_
          refine mGo_call ok rfl (by omega) (hi (m - 1) (by omega) d τ2 (dp + 1) (k + 1) mk fl F (by omega) g4 (fun z => by rw [← AF_par c6.1 c6.2]; exact hmk z)) (fun r sp τ3 hq => ?_)
          obtain ⟨rfl, v, k1, flt, F1, fl1, rfl, q1, q2, q3, q4, q5⟩ := hq
          have qa := q2.1
          have qb := q2.2.2.1
          cases flt with
          | some e =>
            have he := q2.2.2.2.2.2.2.2.2.2.2 e rfl
            refine mGo_run (n := 400) ok rfl ?_
            refine mGo_callR ok rfl (by omega) (m_goes0 (d := d) q2 (c := 41) (fun z => by cases z)) (fun τ4 hτ4 => ?_)
            obtain ⟨g5, g6⟩ := hτ4
            refine mGo_if ok rfl (fun h3 => ?_) (fun h3 => ?_)
            · refine mGo_run (n := 400) ok rfl ?_
              rw [g6.2.2.1]
              refine mGo_if ok rfl (fun h4 => ?_) (fun h4 => ?_)
              · refine mGo_run (n := 400) ok rfl ?_
                exact mGo_ret ok rfl trivial (⟨rfl, v, k1, some e, F1, fl1, rfl, ((g1.trans g3).trans q1).trans g5, g6, q3, q4, rel_parF c6.1 c6.2 q5⟩)
              · exact absurd (nI_pos' (by omega)) h4
            · exact absurd rfl h3
          | none =>
            by_cases c7 : k1 < T.1 ∧ cls (T.2 k1) = 7
            · refine mGo_run (n := 400) ok rfl ?_
              refine mGo_callR ok rfl (by omega) (m_goes1 (d := d) q2 c7.1 ((cls_41 _).mp c7.2)) (fun τ4 hτ4 => ?_)
              obtain ⟨g5, g6⟩ := hτ4
              refine mGo_if ok rfl (fun h3 => ?_) (fun h3 => ?_)
              · exact absurd h3 (by decide)
              · refine mGo_run (n := 400) ok rfl ?_
                exact mGo_ret ok rfl trivial (⟨rfl, v, k1 + 1, none, F1, fl1, rfl, ((g1.trans g3).trans q1).trans g5, g6, q3, q4, rel_par c6.1 c6.2 q5 c7.1 c7.2⟩)
            · refine mGo_run (n := 400) ok rfl ?_
              refine mGo_callR ok rfl (by omega) (m_goes0 (d := d) q2 (c := 41) (fun _ hk z => c7 ⟨hk, (cls_41 _).mpr z⟩)) (fun τ4 hτ4 => ?_)
              obtain ⟨g5, g6⟩ := hτ4
              refine mGo_if ok rfl (fun h3 => ?_) (fun h3 => ?_)
              · refine mGo_run (n := 400) ok rfl ?_
                rw [g6.2.2.1]
                refine mGo_if ok rfl (fun h4 => ?_) (fun h4 => ?_)
                · exact absurd h4 (by decide)
                · refine mGo_run (n := 400) ok rfl ?_
                  rw [g6.1]
                  exact mGo_ret ok rfl trivial (⟨rfl, v, k1, some k1, F1, fl1, rfl, (((g1.trans g3).trans q1).trans g5).W (by decide), rS_fault g6, q3, q4, rel_parO c6.1 c6.2 q5 (fun a z => c7 ⟨a, z⟩)⟩)
              · exact absurd rfl h3
      · refine mGo_run (n := 400) ok rfl ?_
        refine mGo_callR ok rfl (by omega) (m_goes0 (d := d) g2 (c := 40) (fun _ hk z => c6 ⟨hk, (cls_40 _).mpr z⟩)) (fun τ2 hτ2 => ?_)
        obtain ⟨g3, g4⟩ := hτ2
        refine mGo_if ok rfl (fun h2 => ?_) (fun h2 => ?_)
        · refine mGo_runS 62 (n := 400) ok rfl ?_
          have loop : ∀ n j, j + n = 4 → (∀ i, i < j → k < T.1 → T.2 k ≠ nI (112 + i)) → ∀ τ : mHp, fR σ τ → rS τ T k none mk F fl → mGo g l (d + 4 * m + 3) md_X9_readSimple (SH lk ex).length (mTot (SH lk ex)) (62, [some (.ref 48), some (.int (nI j))], [], SH lk ex, τ) (fun r sp σ1 => sp = SH lk ex ∧ rQ T 1 0 dp k mk F fl σ r σ1) := by
            intro n
            induction n with
            | zero =>
              intro j hj hno τ t1 t2
              refine mGo_run (n := 400) ok rfl ?_
              refine mGo_ifI ok rfl (nI_leI (a := 4) (b := j) (by omega) (by omega)) (fun h3 => ?_) (fun h3 => ?_)
              · refine mGo_run (n := 400) ok rfl ?_
                rw [t2.2.2.1]
                refine mGo_if ok rfl (fun h4 => ?_) (fun h4 => ?_)
                · exact absurd h4 (by decide)
                · refine mGo_run (n := 400) ok rfl ?_
                  have hno5 : k < T.1 → cls (T.2 k) ≠ 5 := by
                    intro hk z
                    obtain ⟨i, hi, e1, -⟩ := at_n z
                    refine hno i (by omega) hk ?_
                    rw [← nI_add, ← e1]
                    show T.2 k = 112 + (T.2 k - 112)
                    rw [Int32.add_comm, Int32.sub_add_cancel]
                  rw [t2.1]
                  exact mGo_ret ok rfl trivial (⟨rfl, 0, k, some k, F, fl, rfl, t1.W (by decide), rS_fault t2, by have := h.2.2.2.2.2.2.1.1; omega, fleM.refl, rel_none (fun hk => ⟨hno5 hk, fun z => c1 ⟨hk, z⟩, fun z => c6 ⟨hk, z⟩⟩)⟩)
              · omega
            | succ n ih =>
              intro j hj hno τ t1 t2
              have ec : nI 112 + nI j = nI (112 + j) := nI_add _ _
              refine mGo_run (n := 400) ok rfl ?_
              refine mGo_ifI ok rfl (nI_leI (a := 4) (b := j) (by omega) (by omega)) (fun h3 => ?_) (fun h3 => ?_)
              · omega
              · by_cases hs5 : k < T.1 ∧ T.2 k = nI (112 + j)
                · refine mGo_run (n := 400) ok rfl ?_
                  have e16 : (((112 : Int32) + nI j).toUInt32 % 65536).toInt32 = nI (112 + j) := (at4 (by omega)).1
                  refine mGo_callR ok rfl (by omega) (m_goes1 (d := d) t2 hs5.1 (hs5.2.trans e16.symm)) (fun τ3 hτ3 => ?_)
                  obtain ⟨g5, g6⟩ := hτ3
                  have e5 : cls (T.2 k) = 5 := by rw [hs5.2]; exact (at4 (by omega)).2.1
                  have ev : (T.2 k - 112).toNatClampNeg = j := by rw [hs5.2]; exact (at4 (by omega)).2.2
                  have hr := rel_atom (dp := dp) (mk := mk) (fl := fl) (F := F) hs5.1 e5
                  rw [ev] at hr
                  refine mGo_if ok rfl (fun h4 => ?_) (fun h4 => ?_)
                  · exact absurd h4 (by decide)
                  · refine mGo_run (n := 400) ok rfl ?_
                    exact mGo_ret ok rfl trivial (⟨rfl, j, k + 1, none, F, fl, rfl, t1.trans g5, g6, by have := h.2.2.2.2.2.2.1.1; omega, fleM.refl, hr⟩)
                · refine mGo_run (n := 400) ok rfl ?_
                  have e16 : (((112 : Int32) + nI j).toUInt32 % 65536).toInt32 = nI (112 + j) := (at4 (by omega)).1
                  refine mGo_callR ok rfl (by omega) (m_goes0 (d := d) t2 (fun _ hk z => hs5 ⟨hk, z.trans e16⟩)) (fun τ3 hτ3 => ?_)
                  obtain ⟨g5, g6⟩ := hτ3
                  refine mGo_if ok rfl (fun h4 => ?_) (fun h4 => ?_)
                  · refine mGo_runS 62 (n := 400) ok rfl ?_
                    rw [nI_1]
                    refine ih (j + 1) (by omega) (fun i hi hk z => ?_) τ3 (t1.trans g5) g6
                    rcases Nat.lt_or_ge i j with y | y
                    · exact hno i y hk z
                    · rw [show i = j by omega] at z; exact hs5 ⟨hk, z⟩
                  · exact absurd rfl h4
          exact loop 4 0 (by omega) (fun i hi => by omega) τ2 (g1.trans g3) g4
        · exact absurd rfl h2
    · exact absurd rfl h1
end T
