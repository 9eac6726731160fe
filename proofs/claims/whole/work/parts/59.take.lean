/-! the class TextReader: signs are taken; the class's parse -/
theorem at_n {s : Int32} (h : cls s = 5) : ∃ j : Nat, j < 4 ∧ s - 112 = nI j ∧ (s - 112).toNatClampNeg = j := by
  obtain ⟨h1, h2⟩ := (cls_at s).mp h
  obtain ⟨n, hn, rfl⟩ := nI_of2 (n := 115) (M := 115) (by decide) (fun z => absurd (Int32.lt_of_lt_of_le z (by decide : (0 : Int32) ≤ 112)) (Int32.not_lt.mpr h1)) h2
  have h3 := (nI_leI (a := 112) (b := n) (by omega) (by omega)).mp h1
  refine ⟨n - 112, by omega, ?_, ?_⟩
  · rw [show (112 : Int32) = nI 112 from rfl, pk_sub h3]
  · rw [show (112 : Int32) = nI 112 from rfl, pk_sub h3, nI_clamp (by omega)]
theorem oA_push {σ : mHp} {ops : List Nat} {c : Nat} (h : oA σ ops) : oA (mWI (mWI σ 11 ops.length (nI c)) 10 3 (nI (ops.length + 1))) (c :: ops) := by
  refine ⟨by rw [WI_at, if_pos ⟨rfl, rfl⟩]; simp, fun i x hx => ?_⟩
  rw [WI_at, if_neg (by omega), WI_at]
  rcases rev_app hx with ⟨h1, h2⟩ | ⟨h1, h2⟩
  · rw [if_neg (by omega)]; exact h.2 i x h2
  · rw [if_pos ⟨rfl, h1⟩, h2]
section T
variable {g : mG} {l : Launch} {d : Nat} {lk : Nat} {ex : mSh} {σ : mHp} {T : aI} {F : aF}
theorem cT_push {ops vals : List Nat} {c : Nat} (h : cT σ ops vals F) (hc : 1 ≤ c ∧ c ≤ 5) : cT (mWI (mWI σ 11 ops.length (nI c)) 10 3 (nI (ops.length + 1))) (c :: ops) vals F := by
  obtain ⟨o1, v1, u1, f1, s1, k1, p1, q1⟩ := h
  refine ⟨oA_push o1, ⟨?_, fun i x hx => ?_⟩, ?_, cF_W (by omega) (cF_W (by omega) f1), cS_W (by omega) (cS_W (by omega) s1), k1, fun x hx => ?_, q1⟩
  · rw [WI_at, if_neg (by omega), WI_at, if_neg (by omega)]; exact v1.1
  · rw [WI_at, if_neg (by omega), WI_at, if_neg (by omega)]; exact v1.2 i x hx
  · rw [WI_at, if_neg (by omega), WI_at, if_neg (by omega)]; exact u1
  · rcases List.mem_cons.mp hx with z | z
    · rw [z]; exact hc
    · exact p1 x z
theorem cU_push {ops : List Nat} {c : Nat} (h : cU σ ops F) (hc : 1 ≤ c ∧ c ≤ 5) : cU (mWI (mWI σ 11 ops.length (nI c)) 10 3 (nI (ops.length + 1))) (c :: ops) F := by
  obtain ⟨o1, ⟨n, hn, v1⟩, u1, f1, s1, k1, p1, q1⟩ := h
  refine ⟨oA_push o1, ⟨n, hn, ?_⟩, ?_, cF_W (by omega) (cF_W (by omega) f1), cS_W (by omega) (cS_W (by omega) s1), k1, fun x hx => ?_, q1⟩
  · rw [WI_at, if_neg (by omega), WI_at, if_neg (by omega)]; exact v1
  · rw [WI_at, if_neg (by omega), WI_at, if_neg (by omega)]; exact u1
  · rcases List.mem_cons.mp hx with z | z
    · rw [z]; exact hc
    · exact p1 x z
theorem cT_tail {ops vals : List Nat} (h : cT σ ops vals F) : cT (mWI σ 10 3 (nI ops.tail.length)) ops.tail vals F := by
  obtain ⟨o1, v1, u1, f1, s1, k1, p1, q1⟩ := h
  refine ⟨?_, ⟨by rw [WI_at, if_neg (by omega)]; exact v1.1, fun i x hx => by rw [WI_at, if_neg (by omega)]; exact v1.2 i x hx⟩, by rw [WI_at, if_neg (by omega)]; exact u1, cF_W (by omega) f1, cS_W (by omega) s1, k1, fun x hx => p1 x (List.mem_of_mem_tail hx), q1⟩
  cases ops with
  | nil => exact ⟨by rw [WI_at, if_pos ⟨rfl, rfl⟩], fun i x hx => by simp at hx⟩
  | cons c t => exact oA_tail o1 (by rw [WI_at, if_pos ⟨rfl, rfl⟩, List.tail_cons]) (by funext z; rw [WI_at, if_neg (by omega)])
theorem cU_tail {ops : List Nat} (h : cU σ ops F) : cU (mWI σ 10 3 (nI ops.tail.length)) ops.tail F := by
  obtain ⟨o1, ⟨n, hn, v1⟩, u1, f1, s1, k1, p1, q1⟩ := h
  refine ⟨?_, ⟨n, hn, by rw [WI_at, if_neg (by omega)]; exact v1⟩, by rw [WI_at, if_neg (by omega)]; exact u1, cF_W (by omega) f1, cS_W (by omega) s1, k1, fun x hx => p1 x (List.mem_of_mem_tail hx), q1⟩
  cases ops with
  | nil => exact ⟨by rw [WI_at, if_pos ⟨rfl, rfl⟩], fun i x hx => by simp at hx⟩
  | cons c t => exact oA_tail o1 (by rw [WI_at, if_pos ⟨rfl, rfl⟩, List.tail_cons]) (by funext z; rw [WI_at, if_neg (by omega)])
theorem mx_tail (ops : List Nat) (h : ops.length < 1000) : (if (0 : Int32) < nI ops.length - 1 then nI ops.length - 1 else 0) = nI ops.tail.length := by
  cases ops with
  | nil => rfl
  | cons c t =>
    rw [List.length_cons, nI_pred, List.tail_cons]
    have : t.length + 1 < 1000 := by simpa using h
    by_cases z : 0 < t.length
    · rw [if_pos (show (0 : Int32) < nI t.length from nI_lt (a := 0) z (by omega))]
    · have e : t.length = 0 := by omega
      rw [e]; rfl
theorem mn_3 {c : Nat} (h : c ≤ 7) : (if (3 : Int32) < nI c then 3 else nI c) = nI (if c < 3 then c else 3) := by
  by_cases z : 3 < c
  · rw [if_pos (show (3 : Int32) < nI c from nI_lt (a := 3) z (by omega)), if_neg (show ¬ c < 3 by omega)]; rfl
  · rw [if_neg (show ¬ (3 : Int32) < nI c from fun y => z ((nI_ltI (a := 3) (b := c) (by omega) (by omega)).mp y))]
    congr 1
    split <;> omega
theorem c_takeU {ops : List Nat} (h : cU σ ops F) (hl : ops.length < 40) {s : Int32} (hs : cls s ≠ 0) : mNV g l (d + 4) 62 [.ref 10, .int s] lk ex σ (fun σ1 => frT σ σ1 ∧ ∃ o, o.length ≤ ops.length + 1 ∧ cU σ1 o F) := by
  have hcl := cls_le s
  have ok : mOkP md_X6_take := ok_at 62 (by decide) rfl
  refine mC_of (md := md_X6_take) rfl (lt_at (by decide)) rfl ?_
  refine mGo_run (n := 400) ok rfl ?_
  refine mGo_callP ok rfl (by omega) (c_isAtomSign (d := d) s) ?_
  by_cases c5 : cls s = 5
  · rw [if_pos c5]
    refine mGo_if ok rfl (fun h1 => ?_) (fun h1 => ?_)
    · exact absurd h1 (by decide)
    · obtain ⟨o1, ⟨n, hn, v1⟩, u1, f1, s1, k1, p1, q1⟩ := h
      refine mGo_run (n := 400) ok rfl ?_
      rcases Nat.lt_or_ge n 40 with z | z
      · refine mGo_callV ok rfl (by omega) (c_pushOperand (d := d) v1 z (s - 112)) (fun τ1 hτ1 => ?_)
        subst hτ1
        refine mGo_run (n := 400) ok rfl ?_
        refine mGo_ret ok rfl trivial ⟨rfl, rfl, (frT.refl.WI (by omega)).WI (by omega), ops, by omega, oA_W (oA_W o1 (by omega) (by omega)) (by omega) (by omega), ⟨n + 1, by omega, by rw [WI_at, if_pos ⟨rfl, rfl⟩]⟩, ?_, cF_W (by omega) (cF_W (by omega) f1), cS_W (by omega) (cS_W (by omega) s1), k1, p1, q1⟩
        rw [WI_at, if_neg (by omega), WI_at, if_neg (by omega)]; exact u1
      · have e : n = 40 := by omega
        subst e
        refine mGo_callV ok rfl (by omega) (c_pushOperand1 (d := d) v1 (s - 112)) (fun τ1 hτ1 => ?_)
        subst hτ1
        refine mGo_run (n := 400) ok rfl ?_
        exact mGo_ret ok rfl trivial (⟨rfl, rfl, frT.refl, ops, by omega, o1, ⟨40, hn, v1⟩, u1, f1, s1, k1, p1, q1⟩)
  · rw [if_neg c5]
    refine mGo_if ok rfl (fun h1 => ?_) (fun h1 => ?_)
    · refine mGo_run (n := 400) ok rfl ?_
      refine mGo_if ok rfl (fun h2 => ?_) (fun h2 => ?_)
      · refine mGo_run (n := 400) ok rfl ?_
        refine mGo_callV ok rfl (by omega) (c_pushOperator (d := d) h.1.1 hl 5) (fun τ1 hτ1 => ?_)
        subst hτ1
        refine mGo_run (n := 400) ok rfl ?_
        exact mGo_ret ok rfl trivial (⟨rfl, rfl, (frT.refl.WI (by omega)).WI (by omega), 5 :: ops, by simp, cU_push (c := 5) h ⟨by decide, by decide⟩⟩)
      · refine mGo_run (n := 400) ok rfl ?_
        refine mGo_if ok rfl (fun h3 => ?_) (fun h3 => ?_)
        · refine mGo_run (n := 400) ok rfl ?_
          refine mGo_callV ok rfl (by omega) (c_joinUpToU (d := d) (L := 4) (by omega) h (by omega)) (fun τ1 hτ1 => ?_)
          obtain ⟨t1, o, ol, hu⟩ := hτ1
          refine mGo_run (n := 400) ok rfl ?_
          rw [hu.1.1]
          refine mGo_callP ok rfl (by omega) (c_max (d := d) 0 (nI o.length - 1)) ?_
          rw [mx_tail o (by omega)]
          refine mGo_run (n := 400) ok rfl ?_
          exact mGo_ret ok rfl trivial (⟨rfl, rfl, t1.WI (by omega), o.tail, by simp; omega, cU_tail hu⟩)
        · have n6 : cls s ≠ 6 := fun z => h2 ((cls_40 s).mp z)
          have n7 : cls s ≠ 7 := fun z => h3 ((cls_41 s).mp z)
          refine mGo_run (n := 400) ok rfl ?_
          refine mGo_callP ok rfl (by omega) (c_kindOfOperator (d := d) s) ?_
          rw [if_pos (by omega)]
          refine mGo_run (n := 400) ok rfl ?_
          refine mGo_ifI ok rfl (nI_eq (a := cls s) (b := 1) (by omega) (by omega)) (fun h4 => ?_) (fun h4 => ?_)
          · refine mGo_run (n := 400) ok rfl ?_
            refine mGo_callV ok rfl (by omega) (c_pushOperator (d := d) h.1.1 hl (nI (cls s))) (fun τ1 hτ1 => ?_)
            subst hτ1
            refine mGo_run (n := 400) ok rfl ?_
            exact mGo_ret ok rfl trivial (⟨rfl, rfl, (frT.refl.WI (by omega)).WI (by omega), cls s :: ops, by simp, cU_push h (by omega)⟩)
          · refine mGo_run (n := 400) ok rfl ?_
            refine mGo_callP ok rfl (by omega) (c_min (d := d) (nI (cls s)) 3) ?_
            rw [mn_3 (by omega)]
            refine mGo_callV ok rfl (by omega) (c_joinUpToU (d := d) (L := if cls s < 3 then cls s else 3) (by split <;> omega) h (by omega)) (fun τ1 hτ1 => ?_)
            obtain ⟨t1, o, ol, hu⟩ := hτ1
            refine mGo_run (n := 400) ok rfl ?_
            refine mGo_callV ok rfl (by omega) (c_pushOperator (d := d) hu.1.1 (by omega) (nI (cls s))) (fun τ2 hτ2 => ?_)
            subst hτ2
            refine mGo_run (n := 400) ok rfl ?_
            exact mGo_ret ok rfl trivial (⟨rfl, rfl, (t1.WI (by omega)).WI (by omega), cls s :: o, by simp; omega, cU_push hu (by omega)⟩)
    · exact absurd rfl h1
theorem c_take {ops vals : List Nat} (h : cT σ ops vals F) (hl : ops.length < 40) (hv : vals.length < 40) {s : Int32} (hs : cls s ≠ 0) : mNV g l (d + 4) 62 [.ref 10, .int s] lk ex σ (fun σ1 => frT σ σ1 ∧ uP σ1 (ops.length + 1) F (TK s ops vals F)) := by
  have hcl := cls_le s
  have ok : mOkP md_X6_take := ok_at 62 (by decide) rfl
  refine mC_of (md := md_X6_take) rfl (lt_at (by decide)) rfl ?_
  unfold TK
  refine mGo_run (n := 400) ok rfl ?_
  refine mGo_callP ok rfl (by omega) (c_isAtomSign (d := d) s) ?_
  by_cases c5 : cls s = 5
  · rw [if_pos c5, if_pos c5]
    obtain ⟨j, hj, e1, e2⟩ := at_n c5
    rw [e2]
    refine mGo_if ok rfl (fun h1 => ?_) (fun h1 => ?_)
    · exact absurd h1 (by decide)
    · obtain ⟨o1, v1, u1, f1, s1, k1, p1, q1⟩ := h
      refine mGo_run (n := 400) ok rfl ?_
      rw [e1]
      refine mGo_callV ok rfl (by omega) (c_pushOperand (d := d) v1.1 hv (nI j)) (fun τ1 hτ1 => ?_)
      subst hτ1
      refine mGo_run (n := 400) ok rfl ?_
      refine mGo_ret ok rfl trivial ⟨rfl, rfl, (frT.refl.WI (by omega)).WI (by omega), ⟨oA_W (oA_W o1 (by omega) (by omega)) (by omega) (by omega), vA_push v1.2, ?_, cF_W (by omega) (cF_W (by omega) f1), cS_W (by omega) (cS_W (by omega) s1), k1, p1, fun x hx => ?_⟩, fle.refl⟩
      · rw [WI_at, if_neg (by omega), WI_at, if_neg (by omega)]; exact u1
      · rcases List.mem_cons.mp hx with z | z
        · rw [z]; have := k1.1; omega
        · exact q1 x z
  · rw [if_neg c5, if_neg c5]
    refine mGo_if ok rfl (fun h1 => ?_) (fun h1 => ?_)
    · refine mGo_run (n := 400) ok rfl ?_
      refine mGo_if ok rfl (fun h2 => ?_) (fun h2 => ?_)
      · rw [if_pos ((cls_40 s).mpr h2)]
        refine mGo_run (n := 400) ok rfl ?_
        refine mGo_callV ok rfl (by omega) (c_pushOperator (d := d) h.1.1 hl 5) (fun τ1 hτ1 => ?_)
        subst hτ1
        refine mGo_run (n := 400) ok rfl ?_
        exact mGo_ret ok rfl trivial (⟨rfl, rfl, (frT.refl.WI (by omega)).WI (by omega), cT_push (c := 5) h ⟨by decide, by decide⟩, fle.refl⟩)
      · have n6 : cls s ≠ 6 := fun z => h2 ((cls_40 s).mp z)
        rw [if_neg n6]
        refine mGo_run (n := 400) ok rfl ?_
        refine mGo_if ok rfl (fun h3 => ?_) (fun h3 => ?_)
        · rw [if_pos ((cls_41 s).mpr h3)]
          refine mGo_run (n := 400) ok rfl ?_
          refine mGo_callV ok rfl (by omega) (c_joinUpTo (d := d) (L := 4) (by omega) h (by omega) (by omega)) (fun τ1 hτ1 => ?_)
          obtain ⟨t1, hu⟩ := hτ1
          cases e : JU 4 ops vals F with
          | none =>
            rw [e] at hu
            obtain ⟨o, F1, hu, hf1, ol⟩ := hu
            refine mGo_run (n := 400) ok rfl ?_
            rw [hu.1.1]
            refine mGo_callP ok rfl (by omega) (c_max (d := d) 0 (nI o.length - 1)) ?_
            rw [mx_tail o (by omega)]
            refine mGo_run (n := 400) ok rfl ?_
            exact mGo_ret ok rfl trivial (⟨rfl, rfl, t1.WI (by omega), o.tail, F1, cU_tail hu, hf1, by simp; omega⟩)
          | some x =>
            obtain ⟨o, v, F1⟩ := x
            rw [e] at hu
            obtain ⟨ht, hf1⟩ := hu
            have hjl := JU_len e
            refine mGo_run (n := 400) ok rfl ?_
            rw [ht.1.1]
            refine mGo_callP ok rfl (by omega) (c_max (d := d) 0 (nI o.length - 1)) ?_
            rw [mx_tail o (by omega)]
            refine mGo_run (n := 400) ok rfl ?_
            exact mGo_ret ok rfl trivial (⟨rfl, rfl, t1.WI (by omega), cT_tail ht, hf1⟩)
        · have n7 : cls s ≠ 7 := fun z => h3 ((cls_41 s).mp z)
          rw [if_neg n7]
          refine mGo_run (n := 400) ok rfl ?_
          refine mGo_callP ok rfl (by omega) (c_kindOfOperator (d := d) s) ?_
          rw [if_pos (by omega)]
          refine mGo_run (n := 400) ok rfl ?_
          refine mGo_ifI ok rfl (nI_eq (a := cls s) (b := 1) (by omega) (by omega)) (fun h4 => ?_) (fun h4 => ?_)
          · rw [if_pos h4]
            refine mGo_run (n := 400) ok rfl ?_
            refine mGo_callV ok rfl (by omega) (c_pushOperator (d := d) h.1.1 hl (nI (cls s))) (fun τ1 hτ1 => ?_)
            subst hτ1
            refine mGo_run (n := 400) ok rfl ?_
            rw [h4]
            exact mGo_ret ok rfl trivial (⟨rfl, rfl, (frT.refl.WI (by omega)).WI (by omega), cT_push h (by omega), fle.refl⟩)
          · rw [if_neg h4]
            refine mGo_run (n := 400) ok rfl ?_
            refine mGo_callP ok rfl (by omega) (c_min (d := d) (nI (cls s)) 3) ?_
            rw [mn_3 (by omega)]
            refine mGo_callV ok rfl (by omega) (c_joinUpTo (d := d) (L := if cls s < 3 then cls s else 3) (by split <;> omega) h (by omega) (by omega)) (fun τ1 hτ1 => ?_)
            obtain ⟨t1, hu⟩ := hτ1
            cases e : JU (if cls s < 3 then cls s else 3) ops vals F with
            | none =>
              rw [e] at hu
              obtain ⟨o, F1, hu, hf1, ol⟩ := hu
              refine mGo_run (n := 400) ok rfl ?_
              refine mGo_callV ok rfl (by omega) (c_pushOperator (d := d) hu.1.1 (by omega) (nI (cls s))) (fun τ2 hτ2 => ?_)
              subst hτ2
              refine mGo_run (n := 400) ok rfl ?_
              exact mGo_ret ok rfl trivial (⟨rfl, rfl, (t1.WI (by omega)).WI (by omega), cls s :: o, F1, cU_push hu (by omega), hf1, by simp; omega⟩)
            | some x =>
              obtain ⟨o, v, F1⟩ := x
              rw [e] at hu
              obtain ⟨ht, hf1⟩ := hu
              have hjl := JU_len e
              refine mGo_run (n := 400) ok rfl ?_
              refine mGo_callV ok rfl (by omega) (c_pushOperator (d := d) ht.1.1 (by omega) (nI (cls s))) (fun τ2 hτ2 => ?_)
              subst hτ2
              refine mGo_run (n := 400) ok rfl ?_
              exact mGo_ret ok rfl trivial (⟨rfl, rfl, (t1.WI (by omega)).WI (by omega), cT_push ht (by omega), hf1⟩)
    · exact absurd rfl h1
end T
