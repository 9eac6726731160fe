/-! the law's entry: class numbers, the texts, two statics; then the walk -/
def lw_tm (i : Nat) : Term := .string RX7 (([21, 29, 31, 33, 35] : List Nat).getD i 0)
abbrev lw_gv : Cond := Jvm.Cond.and given_1 narrow_1
set_option maxRecDepth 100000 in
theorem lw_w1 : Cond.arrayOver (.object RX5) ∈ lw_tbl ∧ (∀ e ∈ mNL, mNlC e ∈ lw_tbl) ∧ (∀ q ∈ mStL, Cond.stringRef RX7 q.1 q.2 ∈ lw_tbl) ∧ Cond.laysStatic "java/lang/String" "COMPACT_STRINGS" "Z" ∈ lw_tbl ∧ Cond.initialized "java/lang/String" ∈ lw_tbl ∧ Cond.laysStatic "jdk/internal/util/Preconditions" "SIOOBE_FORMATTER" "Ljava/util/function/BiFunction;" ∈ lw_tbl ∧ Cond.initialized "jdk/internal/util/Preconditions" ∈ lw_tbl := by decide +kernel
set_option maxRecDepth 100000 in
theorem lw_w2 : Cond.eq (.static "java/lang/String" "COMPACT_STRINGS" "Z") (.int 1) ∈ flatC lw_gv ∧ Cond.isRef (.static "jdk/internal/util/Preconditions" "SIOOBE_FORMATTER" "Ljava/util/function/BiFunction;") ∈ flatC lw_gv := by decide +kernel
set_option maxRecDepth 100000 in
theorem lw_w3 : (∀ i : Nat, i < 5 → Cond.exactly (lw_tm i) "java/lang/String" ∈ flatC lw_gv) ∧ (∀ i : Nat, i < 5 → Cond.eq (.field (lw_tm i) "java/lang/String" "coder" "B") (.int 0) ∈ flatC lw_gv) ∧ (∀ i : Nat, i < 5 → Cond.arrayOf (.field (lw_tm i) "java/lang/String" "value" "[B") .byte ∈ flatC lw_gv) ∧ (∀ i : Nat, i < 5 → Cond.eq (.length (.field (lw_tm i) "java/lang/String" "value" "[B")) (.int (Int32.ofNat (mSl.getD i 0))) ∈ flatC lw_gv) := by decide +kernel
set_option maxRecDepth 100000 in
theorem lw_w4 : ∀ i : Nat, i < 5 → ∀ j : Nat, j < mSl.getD i 0 → Cond.eq (.elem (.field (lw_tm i) "java/lang/String" "value" "[B") (.int (Int32.ofNat j))) (.int ((mSb.getD i []).getD j 0)) ∈ flatC lw_gv := by decide +kernel
set_option maxRecDepth 100000 in
theorem lw_w5 : ∀ i : Nat, i < 5 → ∀ j : Nat, j < 5 → i ≠ j → Cond.not (Cond.eq (lw_tm i) (lw_tm j)) ∈ flatC lw_gv ∨ Cond.not (Cond.eq (lw_tm j) (lw_tm i)) ∈ flatC lw_gv := by decide +kernel
theorem lw_arr {A : Array Value} {s : State} {ty : FieldType} (h : (Cond.arrayClass ty).before A s = true) : ∃ cA : ClassId, s.vm.findClass ("[" ++ ty.toString) = some cA ∧ ArrOfT s cA ty := by
  obtain ⟨cA, kA, comp, h1, h2, h3⟩ := Cond.arrayClass_spec (args := A) (first := s) (o := none) (s := s) (idx := []) h
  exact ⟨cA, h1, fun n z => ⟨fun k h => (by cases h), kA, h2, comp, h3⟩⟩
theorem lw_arrq {A : Array Value} {s : State} {C : String} (h : (Cond.arrayOver (.object C)).before A s = true) : ∃ cA : ClassId, va_RA s cA (.object C) ∧ ArrOfT s cA (.object C) := by
  obtain ⟨comp, cA, kA, h1, -, h2, h3, h4⟩ := Cond.arrayOver_spec (args := A) (first := s) (o := none) (s := s) (idx := []) h
  exact ⟨cA, ⟨kA, comp, h2, h3, h1, h4⟩, fun n z => ⟨fun k h => (by cases h), kA, h2, comp, h3⟩⟩
set_option maxHeartbeats 4000000 in
theorem whole_start {p : Program} {e : Env} {s : State} {m : MethodId} {below : List Frame} {meth : Method} {c : Code} (l : Launch) (hflags : l.flags = flags0) {b L : Nat} {xs : Nat → Int32} (hL : L ≤ 3072) (C0 : lw_At p s m meth c b L xs) : W p l e room_1 s m #[Value.ref b] below meth c s.heap [] 0 0 (lw_Z below #[Value.ref b] s) (entryFrame m ([Value.ref b] : List Value).toArray 4) := by
  obtain ⟨hx, hb, hr, hml, hown, hts, hXs, hbl, hlocks, hgv, hnm⟩ := C0
  have htb : ∀ w ∈ mTB, w.before #[Value.ref b] s = true := fun w hw => hts w (List.mem_filter.mp hw).1
  have hs := flat_of_before _ hgv
  obtain ⟨w1, w2, w3, w4, w5, w6, w7⟩ := lw_w1
  have hA : ∀ a : Nat, a < s.heap.size → ¬ (fun q : Nat => s.heap.size ≤ q) a := fun a h => Nat.not_le.mpr h
  obtain ⟨adK, adV, hVS, hVe⟩ := vk_Sof (args := #[Value.ref b]) (s := s) (N := 5) (tm := lw_tm) (len := mSl) (byt := mSb) (A := fun q : Nat => s.heap.size ≤ q) (by decide) (fun i hi => hs _ (lw_w3.1 i hi)) (fun i hi => hs _ (lw_w3.2.1 i hi)) (fun i hi => hs _ (lw_w3.2.2.1 i hi)) (fun i hi => hs _ (lw_w3.2.2.2 i hi)) (fun i hi j hj => hs _ (lw_w4 i hi j hj)) (fun i j hi hj hij => (lw_w5 i hi j hj hij).imp (fun h => hs _ h) (fun h => hs _ h)) hA
  have hKn : ∀ i : Nat, ∃ (cC : ClassId) (iS : Nat → Nat), ∀ q, vwCl[i]? = some q → u_Kn s q.1 q.2.1 q.2.2 cC iS := by
    intro i
    cases hq : vwCl[i]? with
    | none => exact ⟨m.cls, fun _ => 0, fun q h => by cases h⟩
    | some q =>
      have hqm : q ∈ vwCl := List.mem_of_getElem? hq
      obtain ⟨cC, iS, h⟩ := u_known htb (mLay_tb q hqm) (htb _ (mIn_tb (q.1, q.2.2) (List.mem_map_of_mem hqm)))
      exact ⟨cC, iS, fun q1 h1 => by cases h1; exact h⟩
  obtain ⟨a0, f0, g0⟩ := lw_arr (htb _ (mAr_in .int (by decide)))
  obtain ⟨a1, f1, g1⟩ := lw_arr (htb _ (mAr_in .long (by decide)))
  obtain ⟨a2, f2, g2⟩ := lw_arr (htb _ (mAr_in .double (by decide)))
  obtain ⟨a3, f3, g3⟩ := lw_arrq (hts _ w1)
  let g : mG := (fun i => Classical.choose (hKn i), fun i => Classical.choose (Classical.choose_spec (hKn i)), fun i => if i = 0 then a0 else if i = 1 then a1 else if i = 2 then a2 else a3, s.heap.size, s.heap, adK)
  have hK : mK g s := by
    refine ⟨⟨fun i q hq => Classical.choose_spec (Classical.choose_spec (hKn i)) q hq, fun k q hq => ?_⟩, fun k q hq => ?_, fun e he => ?_, va_AO.of (hts _ w1), ⟨adV, hVS⟩, va_Zof (hts _ w4) (hts _ w5) (va_eqi (hs _ lw_w2.1)) hA, va_Zqof (hts _ w6) (hts _ w7) (hs _ lw_w2.2) hA⟩
    · match k, hq with
      | 0, hq => cases hq; exact ⟨g0, f0⟩
      | 1, hq => cases hq; exact ⟨g1, f1⟩
      | 2, hq => cases hq; exact ⟨g2, f2⟩
      | 3, hq => cases hq; exact ⟨g3, f3⟩
      | k + 4, hq => cases hq
    · match k, hq with
      | 0, hq => cases hq; exact vk_R.of (hts _ (w3 _ (by decide))) (hVe 0 (by omega))
      | 1, hq => cases hq; exact vk_R.of (hts _ (w3 _ (by decide))) (hVe 1 (by omega))
      | 2, hq => cases hq; exact vk_R.of (hts _ (w3 _ (by decide))) (hVe 2 (by omega))
      | 3, hq => cases hq; exact vk_R.of (hts _ (w3 _ (by decide))) (hVe 3 (by omega))
      | 4, hq => cases hq; exact vk_R.of (hts _ (w3 _ (by decide))) (hVe 4 (by omega))
      | k + 5, hq => cases hq
    · exact va_Nw.of rfl (hts _ (w2 e he))
  have hX : mX g md_law p s m #[Value.ref b] meth c 0 := ⟨hx, hb, hml, hown, htb, hK, hr, hlocks, rfl, fun q _ => rfl, hnm⟩
  have h : lX g p room_1 s m #[Value.ref b] meth c b L xs := ⟨hX, hXs, hbl, hL, by decide, by decide, by decide, by decide⟩
  have ok := mOkP_law
  have hE : ∀ (j k : Nat) (σ : mHp), k ≤ 7 → mJ g l md_law p e room_1 s m #[Value.ref b] below meth c 0 0 (lw_Z below #[Value.ref b] s) (1156, LL b j, [], SH (lkL k) (exL k), σ) := by
    intro j k σ hk
    have h1 := SK_room k hk
    unfold SK at h1
    refine mJ_run hX (n := 400) ok rfl ?_
    exact law_end hX (by omega) (by omega)
  have M := law_all (l := l) (e := e) (below := below) h hE (fun _ _ => 0, fun _ _ => 0, fun _ _ => 0)
  refine W.base ?_
  have hl := lv_entry ([.ref b]) (n := 4) (Nat.le_of_ble_eq_true rfl)
  rw [lg_entry_eq]
  have hmp : mLp (mGh g) 0 [some (.ref (1000000 + b)), none, none, none] = [(0, .ref b)] := by
    show [(0, Value.ref (mAl (mGh g) (1000000 + b)))] = _
    rw [mAl_ge]
  exact M s.drawn (Drawn.sameBut.refl s.drawn lw_cs) (Nat.le_refl _) (Nat.le_refl _) s.heap [] _ (fun i q hq => by cases hq) va_S.rf ⟨rfl, hl.1, hl.2.1, fun q hq => hl.2.2 q (by rw [hmp] at hq; exact hq)⟩
