/-! texts of the library: length and charAt of the class's five constants -/
theorem dJ0_length_8abf5_0 : decode cJ0_length_8abf5 0 = .ok (.aload_n 0, 1) := by decide +kernel
theorem dJ0_length_8abf5_1 : decode cJ0_length_8abf5 1 = .ok (.getfield 9, 3) := by decide +kernel
theorem dJ0_length_8abf5_4 : decode cJ0_length_8abf5 4 = .ok (.arraylength, 1) := by decide +kernel
theorem dJ0_length_8abf5_5 : decode cJ0_length_8abf5 5 = .ok (.aload_n 0, 1) := by decide +kernel
theorem dJ0_length_8abf5_6 : decode cJ0_length_8abf5 6 = .ok (.invokevirtual 335, 3) := by decide +kernel
theorem dJ0_length_8abf5_9 : decode cJ0_length_8abf5 9 = .ok (.ishr, 1) := by decide +kernel
theorem dJ0_length_8abf5_10 : decode cJ0_length_8abf5 10 = .ok (.ireturn, 1) := by decide +kernel
theorem dJ0_charAt_5068e_0 : decode cJ0_charAt_5068e 0 = .ok (.aload_n 0, 1) := by decide +kernel
theorem dJ0_charAt_5068e_1 : decode cJ0_charAt_5068e 1 = .ok (.invokevirtual 492, 3) := by decide +kernel
theorem dJ0_charAt_5068e_4 : decode cJ0_charAt_5068e 4 = .ok (.ifCond .eq 12, 3) := by decide +kernel
theorem dJ0_charAt_5068e_7 : decode cJ0_charAt_5068e 7 = .ok (.aload_n 0, 1) := by decide +kernel
theorem dJ0_charAt_5068e_8 : decode cJ0_charAt_5068e 8 = .ok (.getfield 9, 3) := by decide +kernel
theorem dJ0_charAt_5068e_11 : decode cJ0_charAt_5068e 11 = .ok (.iload_n 1, 1) := by decide +kernel
theorem dJ0_charAt_5068e_12 : decode cJ0_charAt_5068e 12 = .ok (.invokestatic 495, 3) := by decide +kernel
theorem dJ0_charAt_5068e_15 : decode cJ0_charAt_5068e 15 = .ok (.ireturn, 1) := by decide +kernel
theorem dJ0_charAt_5068e_16 : decode cJ0_charAt_5068e 16 = .ok (.aload_n 0, 1) := by decide +kernel
theorem dJ0_charAt_5068e_17 : decode cJ0_charAt_5068e 17 = .ok (.getfield 9, 3) := by decide +kernel
theorem dJ0_charAt_5068e_20 : decode cJ0_charAt_5068e 20 = .ok (.iload_n 1, 1) := by decide +kernel
theorem dJ0_charAt_5068e_21 : decode cJ0_charAt_5068e 21 = .ok (.invokestatic 498, 3) := by decide +kernel
theorem dJ0_charAt_5068e_24 : decode cJ0_charAt_5068e 24 = .ok (.ireturn, 1) := by decide +kernel
theorem dJ0_coder_7d493_0 : decode cJ0_coder_7d493 0 = .ok (.getstatic 38, 3) := by decide +kernel
theorem dJ0_coder_7d493_3 : decode cJ0_coder_7d493 3 = .ok (.ifCond .eq 10, 3) := by decide +kernel
theorem dJ0_coder_7d493_6 : decode cJ0_coder_7d493 6 = .ok (.aload_n 0, 1) := by decide +kernel
theorem dJ0_coder_7d493_7 : decode cJ0_coder_7d493 7 = .ok (.getfield 15, 3) := by decide +kernel
theorem dJ0_coder_7d493_10 : decode cJ0_coder_7d493 10 = .ok (.goto 4, 3) := by decide +kernel
theorem dJ0_coder_7d493_13 : decode cJ0_coder_7d493 13 = .ok (.iconst 1, 1) := by decide +kernel
theorem dJ0_coder_7d493_14 : decode cJ0_coder_7d493 14 = .ok (.ireturn, 1) := by decide +kernel
theorem dJ0_isLatin1_aae02_0 : decode cJ0_isLatin1_aae02 0 = .ok (.getstatic 38, 3) := by decide +kernel
theorem dJ0_isLatin1_aae02_3 : decode cJ0_isLatin1_aae02 3 = .ok (.ifCond .eq 14, 3) := by decide +kernel
theorem dJ0_isLatin1_aae02_6 : decode cJ0_isLatin1_aae02 6 = .ok (.aload_n 0, 1) := by decide +kernel
theorem dJ0_isLatin1_aae02_7 : decode cJ0_isLatin1_aae02 7 = .ok (.getfield 15, 3) := by decide +kernel
theorem dJ0_isLatin1_aae02_10 : decode cJ0_isLatin1_aae02 10 = .ok (.ifCond .ne 7, 3) := by decide +kernel
theorem dJ0_isLatin1_aae02_13 : decode cJ0_isLatin1_aae02 13 = .ok (.iconst 1, 1) := by decide +kernel
theorem dJ0_isLatin1_aae02_14 : decode cJ0_isLatin1_aae02 14 = .ok (.goto 4, 3) := by decide +kernel
theorem dJ0_isLatin1_aae02_17 : decode cJ0_isLatin1_aae02 17 = .ok (.iconst 0, 1) := by decide +kernel
theorem dJ0_isLatin1_aae02_18 : decode cJ0_isLatin1_aae02 18 = .ok (.ireturn, 1) := by decide +kernel
theorem dJ0_checkIndex_df160_0 : decode cJ0_checkIndex_df160 0 = .ok (.iload_n 0, 1) := by decide +kernel
theorem dJ0_checkIndex_df160_1 : decode cJ0_checkIndex_df160 1 = .ok (.iload_n 1, 1) := by decide +kernel
theorem dJ0_checkIndex_df160_2 : decode cJ0_checkIndex_df160 2 = .ok (.getstatic 1053, 3) := by decide +kernel
theorem dJ0_checkIndex_df160_5 : decode cJ0_checkIndex_df160 5 = .ok (.invokestatic 1059, 3) := by decide +kernel
theorem dJ0_checkIndex_df160_8 : decode cJ0_checkIndex_df160 8 = .ok (.pop, 1) := by decide +kernel
theorem dJ0_checkIndex_df160_9 : decode cJ0_checkIndex_df160 9 = .ok (.return_, 1) := by decide +kernel
theorem dJ1_charAt_3b067_0 : decode cJ1_charAt_3b067 0 = .ok (.iload_n 1, 1) := by decide +kernel
theorem dJ1_charAt_3b067_1 : decode cJ1_charAt_3b067 1 = .ok (.aload_n 0, 1) := by decide +kernel
theorem dJ1_charAt_3b067_2 : decode cJ1_charAt_3b067 2 = .ok (.arraylength, 1) := by decide +kernel
theorem dJ1_charAt_3b067_3 : decode cJ1_charAt_3b067 3 = .ok (.invokestatic 9, 3) := by decide +kernel
theorem dJ1_charAt_3b067_6 : decode cJ1_charAt_3b067 6 = .ok (.aload_n 0, 1) := by decide +kernel
theorem dJ1_charAt_3b067_7 : decode cJ1_charAt_3b067 7 = .ok (.iload_n 1, 1) := by decide +kernel
theorem dJ1_charAt_3b067_8 : decode cJ1_charAt_3b067 8 = .ok (.baload, 1) := by decide +kernel
theorem dJ1_charAt_3b067_9 : decode cJ1_charAt_3b067 9 = .ok (.sipush 255, 3) := by decide +kernel
theorem dJ1_charAt_3b067_12 : decode cJ1_charAt_3b067 12 = .ok (.iand, 1) := by decide +kernel
theorem dJ1_charAt_3b067_13 : decode cJ1_charAt_3b067 13 = .ok (.i2c, 1) := by decide +kernel
theorem dJ1_charAt_3b067_14 : decode cJ1_charAt_3b067 14 = .ok (.ireturn, 1) := by decide +kernel
theorem dJ3_checkIndex_8e157_0 : decode cJ3_checkIndex_8e157 0 = .ok (.iload_n 0, 1) := by decide +kernel
theorem dJ3_checkIndex_8e157_1 : decode cJ3_checkIndex_8e157 1 = .ok (.ifCond .lt 8, 3) := by decide +kernel
theorem dJ3_checkIndex_8e157_4 : decode cJ3_checkIndex_8e157 4 = .ok (.iload_n 0, 1) := by decide +kernel
theorem dJ3_checkIndex_8e157_5 : decode cJ3_checkIndex_8e157 5 = .ok (.iload_n 1, 1) := by decide +kernel
theorem dJ3_checkIndex_8e157_6 : decode cJ3_checkIndex_8e157 6 = .ok (.if_icmp .lt 10, 3) := by decide +kernel
theorem dJ3_checkIndex_8e157_9 : decode cJ3_checkIndex_8e157 9 = .ok (.aload_n 2, 1) := by decide +kernel
theorem dJ3_checkIndex_8e157_10 : decode cJ3_checkIndex_8e157 10 = .ok (.iload_n 0, 1) := by decide +kernel
theorem dJ3_checkIndex_8e157_11 : decode cJ3_checkIndex_8e157 11 = .ok (.iload_n 1, 1) := by decide +kernel
theorem dJ3_checkIndex_8e157_12 : decode cJ3_checkIndex_8e157 12 = .ok (.invokestatic 95, 3) := by decide +kernel
theorem dJ3_checkIndex_8e157_15 : decode cJ3_checkIndex_8e157 15 = .ok (.athrow, 1) := by decide +kernel
theorem dJ3_checkIndex_8e157_16 : decode cJ3_checkIndex_8e157 16 = .ok (.iload_n 0, 1) := by decide +kernel
theorem dJ3_checkIndex_8e157_17 : decode cJ3_checkIndex_8e157 17 = .ok (.ireturn, 1) := by decide +kernel
def sTh (g : mG) (adV : Nat → Nat) (U : State) : Prop := vk_S 5 mSl mSb (mGs g) adV (mA g) U U.heap ∧ va_Z "java/lang/String" "COMPACT_STRINGS" "Z" (.int 1) (mA g) U U.heap ∧ va_Zq "jdk/internal/util/Preconditions" "SIOOBE_FORMATTER" "Ljava/util/function/BiFunction;" (mA g) U U.heap
theorem sTh.of {g : mG} {U : State} (h : mTx g U) (hH : ∀ q : Nat, q < mGh g → U.heap[q]? = (mGH g)[q]?) : ∃ adV, sTh g adV U := by
  obtain ⟨⟨adV, h1⟩, h2, h3⟩ := h
  have hq : ∀ a : Nat, a < (mGH g).size → ¬ mA g a → U.heap[a]? = (mGH g)[a]? := fun a _ hA => hH a (Nat.lt_of_not_le hA)
  exact ⟨adV, h1.kept hq, h2.kept hq, h3.kept hq⟩
theorem sTh.go {g : mG} {adV : Nat → Nat} {s U : State} (hvm : s.vm.Alike U.vm) (hH : ∀ q : Nat, q < s.heap.size → ¬ mA g q → U.heap[q]? = s.heap[q]?) (h : sTh g adV s) : sTh g adV U :=
  ⟨(vk_S.moved hvm h.1).kept hH, (va_Z.moved hvm h.2.1).kept hH, (va_Zq.moved hvm h.2.2).kept hH⟩
/-- a method of the library, on these texts: it answers r and changes nothing -/
def sCt (g : mG) (adV : Nat → Nat) (l : Launch) (d : Nat) (y : MethodName) (cc : ByteArray) (maxL : Nat) (ret : Option FieldType) (as : List Value) (r : Option Value) : Prop := Met l y (.code y cc maxL ret :: mTB) (mRm d 0 0) (va_Pc as (sTh g adV)) (fun _ st oc t => oc = .returned r ∧ t.heap = st.heap) 0 0 (mA g)
theorem sBlind {g : mG} {adV : Nat → Nat} {as : List Value} : FrameBlind (va_Pc as (sTh g adV)) := by
  intro a U g0 mk q
  obtain ⟨q0, q1⟩ := q
  exact ⟨q0, sTh.go (s := U) (Vm.Alike.refl _) (fun _ _ _ => rfl) q1⟩
theorem sMet {g : mG} {adV : Nat → Nat} {l : Launch} {d : Nat} {y : MethodName} {cc : ByteArray} {maxL : Nat} {ret : Option FieldType} {as : List Value} {r : Option Value} (hy : plainFor y = true) (hn : (lg_sl as).length ≤ maxL) (k : ∀ (p : Program) (e : Env) (R : Room) (s : State) (m : MethodId) (below : List Frame) (meth : Method) (c : Code) (ls : Array Slot), p.tables.exec = Jvm.exec → CallFix p m c cc maxL s as.toArray mTB y.cls → meth.sig.returnType = ret → meth.locks = false → sTh g adV s → lv_has ls maxL (lv_args 0 as) → d ≤ R.frames → 41 * d ≤ R.locals → W p l e R s m as.toArray below meth c s.heap [] 0 0 (MQ below (fun _ st oc t => oc = .returned r ∧ t.heap = st.heap) as.toArray s 0 0 (mA g)) (F0 m 0 ls [])) : sCt g adV l d y cc maxL ret as r := by
  refine va_MetF (cc := cc) (maxL := maxL) (ret := ret) hy rfl ?_
  intro p e s m args below meth c s₁ B hml hv
  obtain ⟨rfl, hT⟩ := hv
  have hts := atoms_spec (ws := .code y cc maxL ret :: mTB) B.pre
  have hown : s.vm.findClass y.cls = some m.cls := findClass_of_methodNamed B.named
  rw [lg_entry_eq]
  have hl := lv_entry as (n := maxL) hn
  exact k p e _ s m below meth c _ B.exec ⟨B.exec, B.bytes, hml, hown, fun w hw => hts w (List.mem_cons_of_mem _ hw)⟩ B.returns B.notSynchronized hT hl (Nat.le_refl _) (Nat.le_refl _)
def sWL : List Cond := [.code yJ0_length_8abf5 cJ0_length_8abf5 1 (some .int), .fieldLink RJ0 9 "java/lang/String" "value" "[B", .methodLink RJ0 335 yJ0_coder_7d493, .instanceMethod yJ0_coder_7d493, .selects RJ0 yJ0_coder_7d493 yJ0_coder_7d493, .initialized RJ0, .code yJ0_coder_7d493 cJ0_coder_7d493 1 (some .byte), .fieldLink RJ0 38 "java/lang/String" "COMPACT_STRINGS" "Z", .fieldLink RJ0 15 "java/lang/String" "coder" "B",
  .code yJ0_charAt_5068e cJ0_charAt_5068e 2 (some .char), .methodLink RJ0 492 yJ0_isLatin1_aae02, .instanceMethod yJ0_isLatin1_aae02, .selects RJ0 yJ0_isLatin1_aae02 yJ0_isLatin1_aae02, .code yJ0_isLatin1_aae02 cJ0_isLatin1_aae02 1 (some .boolean), .methodLink RJ0 495 yJ1_charAt_3b067, .static yJ1_charAt_3b067, .initialized RJ1, .code yJ1_charAt_3b067 cJ1_charAt_3b067 2 (some .char), .methodLink RJ1 9 yJ0_checkIndex_df160, .static yJ0_checkIndex_df160, .code yJ0_checkIndex_df160 cJ0_checkIndex_df160 2 none,
  .fieldLink RJ0 1053 "jdk/internal/util/Preconditions" "SIOOBE_FORMATTER" "Ljava/util/function/BiFunction;", .methodLink RJ0 1059 yJ3_checkIndex_8e157, .static yJ3_checkIndex_8e157, .initialized RJ3, .code yJ3_checkIndex_8e157 cJ3_checkIndex_8e157 3 (some .int), .methodLink RX3 17 yJ0_length_8abf5, .instanceMethod yJ0_length_8abf5, .selects RJ0 yJ0_length_8abf5 yJ0_length_8abf5, .methodLink RX3 22 yJ0_charAt_5068e, .instanceMethod yJ0_charAt_5068e, .selects RJ0 yJ0_charAt_5068e yJ0_charAt_5068e]
set_option maxRecDepth 100000 in
theorem sWL_ok : ∀ w ∈ sWL, w ∈ lw_tbl ∧ goodWord w = true := by decide +kernel
theorem sW (i : Nat) {w : Cond} (h : sWL[i]? = some w) : w ∈ mTB := List.mem_filter.mpr (sWL_ok w (List.mem_of_getElem? h))
section SW
variable {g : mG} {adV : Nat → Nat} {l : Launch} {p : Program} {e : Env} {R : Room} {s : State} {m : MethodId} {args : Array Value} {below : List Frame} {meth : Method} {c : Code} {Q : State → Prop} {locs : List Loc} {cells slots : Nat} {cc : ByteArray} {nL : Nat} {own : String} {H : Heap}
theorem sGood {w : Cond} (h : w ∈ mTB) : GoodIn mTB (w :: mTB) := by
  intro x hx
  rcases List.mem_cons.mp hx with rfl | hx
  · exact mTB_good _ h
  · exact mTB_good _ hx
/-- a call of such a method -/
theorem sCallS {d1 pc idx n maxL1 : Nat} {y : MethodName} {c1 : ByteArray} {ret1 : Option FieldType} {As rest : List Value} {r : Option Value} {ls : Array Slot} {st : List Value} (hfix : CallFix p m c cc nL s args mTB own) (hT : sTh g adV s) (hS : va_S (mA g) s.heap H locs) (hc : sCt g adV l d1 y c1 maxL1 ret1 As r) (hcode : Cond.code y c1 maxL1 ret1 ∈ mTB) (hl : Cond.methodLink own idx y ∈ mTB) (hst : Cond.static y ∈ mTB) (hini : Cond.initialized y.cls ∈ mTB) (hd : y.cls ≠ "java/lang/invoke/MethodHandle" ∧ y.cls ≠ "java/lang/invoke/VarHandle" ∧ (parseMethodDescriptor y.desc).map (fun d => d.parameters.length) = some n) (hR : d1 + 1 ≤ R.frames) (hR2 : 41 * (d1 + 1) ≤ R.locals) (hm : maxL1 ≤ 20) (hn : As.length = n) (hsz : ls.size = nL) (hstk : st = As.reverse ++ rest) (hW : (rest.map fun v => v.category).sum ≤ 8) (hdg : decode cc pc = .ok (.invokestatic idx, 3)) (hf : cells ≤ R.cells ∧ slots ≤ R.slots)
    (k : ∀ (H1 : Heap) (locs1 : List Loc), H1 = H → va_S (mA g) s.heap H1 locs1 → W p l e R s m args below meth c H1 locs1 cells slots Q (F0 m (pc + 3) ls (r.toList ++ rest))) : W p l e R s m args below meth c H locs cells slots Q (F0 m pc ls st) := by
  have hts := hfix.2.2.2.2
  have CB := callB_of (R := R) (ws := Cond.code y c1 maxL1 ret1 :: mTB) (rm := mRm d1 0 0) n hts (sGood hcode) rfl rfl rfl (hts _ hini) (hts _ hl) hd ⟨hR, by show 8 + (maxL1 + 11) + 41 * d1 ≤ R.locals; omega⟩
  have hrun := va_runS (rest := rest) (g := F0 m pc ls st) (H := H) (locs := locs) (below := below) (meth := meth) (p := p) (e := e) (cells := cells) (slots := slots) hfix hc ⟨CB, hts _ hst⟩ ⟨sBlind, fun U hU hW => ⟨rfl, sTh.go hW.alike (fun q h1 h2 => by rw [hU]; exact hS.2.1 q h1 h2) hT⟩⟩ rfl hn hsz hstk (by show 2 * 0 + _ ≤ 8; omega) hdg ⟨by show cells + 0 ≤ R.cells; omega, by show slots + 0 ≤ R.slots; omega⟩
  refine mCallW hrun (fun v st₀ t1 L1 h0 hq hL => ?_)
  obtain ⟨h1, h2⟩ := hq
  cases h1
  have hS1 : va_S (mA g) s.heap t1.heap (locs ++ L1) := by
    rw [h2, h0]
    refine ⟨hS.1, hS.2.1, fun q hq => ?_⟩
    rcases List.mem_append.mp hq with h | h
    · exact hS.2.2 q h
    · exact hL q h
  exact k t1.heap (locs ++ L1) (h2.trans h0) hS1
theorem sCallV {d1 pc idx n maxL1 b i : Nat} {y : MethodName} {c1 : ByteArray} {ret1 : Option FieldType} {As rest : List Value} {r : Option Value} {ls : Array Slot} {st : List Value} (hfix : CallFix p m c cc nL s args mTB own) (hT : sTh g adV s) (hS : va_S (mA g) s.heap H locs) (hi : i < 5) (hb : b = mGs g i) (hc : sCt g adV l d1 y c1 maxL1 ret1 (.ref b :: As) r) (hcode : Cond.code y c1 maxL1 ret1 ∈ mTB) (hl : Cond.methodLink own idx y ∈ mTB) (hst : Cond.instanceMethod y ∈ mTB) (hse : Cond.selects RJ0 y y ∈ mTB) (hini : Cond.initialized y.cls ∈ mTB) (hd : y.cls ≠ "java/lang/invoke/MethodHandle" ∧ y.cls ≠ "java/lang/invoke/VarHandle" ∧ (parseMethodDescriptor y.desc).map (fun d => d.parameters.length) = some n) (hR : d1 + 1 ≤ R.frames) (hR2 : 41 * (d1 + 1) ≤ R.locals) (hm : maxL1 ≤ 20) (hn : As.length = n) (hsz : ls.size = nL) (hstk : st = As.reverse ++ .ref b :: rest) (hW : (rest.map fun v => v.category).sum ≤ 8) (hdg : decode cc pc = .ok (.invokevirtual idx, 3)) (hf : cells ≤ R.cells ∧ slots ≤ R.slots)
    (k : ∀ (H1 : Heap) (locs1 : List Loc), H1 = H → va_S (mA g) s.heap H1 locs1 → W p l e R s m args below meth c H1 locs1 cells slots Q (F0 m (pc + 3) ls (r.toList ++ rest))) : W p l e R s m args below meth c H locs cells slots Q (F0 m pc ls st) := by
  subst hb
  have hts := hfix.2.2.2.2
  have CB := callB_of (R := R) (ws := Cond.code y c1 maxL1 ret1 :: mTB) (rm := mRm d1 0 0) n hts (sGood hcode) rfl rfl rfl (hts _ hini) (hts _ hl) hd ⟨hR, by show 8 + (maxL1 + 11) + 41 * d1 ≤ R.locals; omega⟩
  have hrun := va_runV (C := RJ0) (b := mGs g i) (rest := rest) (g := F0 m pc ls st) (H := H) (locs := locs) (below := below) (meth := meth) (p := p) (e := e) (cells := cells) (slots := slots) hfix hc ⟨CB, hts _ hst, hts _ hse⟩ ⟨sBlind, vk_recv hT.1 hi hS, fun U hU hW => ⟨rfl, sTh.go hW.alike (fun q h1 h2 => by rw [hU]; exact hS.2.1 q h1 h2) hT⟩⟩ rfl hn hsz hstk (by show 2 * 0 + _ ≤ 8; omega) hdg ⟨by show cells + 0 ≤ R.cells; omega, by show slots + 0 ≤ R.slots; omega⟩
  refine mCallW hrun (fun v st₀ t1 L1 h0 hq hL => ?_)
  obtain ⟨h1, h2⟩ := hq
  cases h1
  have hS1 : va_S (mA g) s.heap t1.heap (locs ++ L1) := by
    rw [h2, h0]
    refine ⟨hS.1, hS.2.1, fun q hq => ?_⟩
    rcases List.mem_append.mp hq with h | h
    · exact hS.2.2 q h
    · exact hL q h
  exact k t1.heap (locs ++ L1) (h2.trans h0) hS1
end SW
section ST
variable {g : mG} {adV : Nat → Nat} {l : Launch} {i : Nat}
theorem s_coder (hi : i < 5) : sCt g adV l 0 yJ0_coder_7d493 cJ0_coder_7d493 1 (some .byte) [.ref (mGs g i)] (some (.int 0)) := by
  refine sMet (by decide) (Nat.le_of_ble_eq_true rfl) (fun p e R s m below meth c ls hx hfix hr hlocks hT hl hR hR2 => ?_)
  have hb := hfix.2.1
  have hts := hfix.2.2.2.2
  have hown : s.vm.findClass RJ0 = some m.cls := hfix.2.2.2.1
  have hl : lv_has ls 1 [(0, .ref (mGs g i))] := hl
  refine va_gets hx hb hT.2.1 va_S.rf hown (hts _ (sW 7 rfl)) (fun x h => h) dJ0_coder_7d493_0 ?_
  refine lv_if_eq hx hb (tgt := 13) dJ0_coder_7d493_3 (by decide) (fun h => absurd h (by decide)) (fun h => ?_)
  refine lv_aload_n hx hb dJ0_coder_7d493_6 rfl (lv_at hl 0 rfl) ?_
  refine vk_getf hx hb (hT.1.1 i hi).2.1 va_S.rf hown (hts _ (sW 8 rfl)) (fun x h => h) dJ0_coder_7d493_7 ?_
  refine lv_goto hx hb (tgt := 14) dJ0_coder_7d493_10 (by decide) ?_
  exact W.zret hx hb hr (by decide) (fun t ht hW => ⟨rfl, ht⟩) (va_S.rf (H0 := s.heap)).2.2 dJ0_coder_7d493_14 hlocks
theorem s_isLatin1 (hi : i < 5) : sCt g adV l 0 yJ0_isLatin1_aae02 cJ0_isLatin1_aae02 1 (some .boolean) [.ref (mGs g i)] (some (.int 1)) := by
  refine sMet (by decide) (Nat.le_of_ble_eq_true rfl) (fun p e R s m below meth c ls hx hfix hr hlocks hT hl hR hR2 => ?_)
  have hb := hfix.2.1
  have hts := hfix.2.2.2.2
  have hown : s.vm.findClass RJ0 = some m.cls := hfix.2.2.2.1
  have hl : lv_has ls 1 [(0, .ref (mGs g i))] := hl
  refine va_gets hx hb hT.2.1 va_S.rf hown (hts _ (sW 7 rfl)) (fun x h => h) dJ0_isLatin1_aae02_0 ?_
  refine lv_if_eq hx hb (tgt := 17) dJ0_isLatin1_aae02_3 (by decide) (fun h => absurd h (by decide)) (fun h => ?_)
  refine lv_aload_n hx hb dJ0_isLatin1_aae02_6 rfl (lv_at hl 0 rfl) ?_
  refine vk_getf hx hb (hT.1.1 i hi).2.1 va_S.rf hown (hts _ (sW 8 rfl)) (fun x h => h) dJ0_isLatin1_aae02_7 ?_
  refine lv_if_ne hx hb (tgt := 17) dJ0_isLatin1_aae02_10 (by decide) (fun h => absurd rfl h) (fun h => ?_)
  refine lv_iconst hx hb dJ0_isLatin1_aae02_13 rfl ?_
  refine lv_goto hx hb (tgt := 18) dJ0_isLatin1_aae02_14 (by decide) ?_
  exact W.zret hx hb hr (mNar_z (t := .boolean) rfl (Or.inr rfl)).1 (fun t ht hW => ⟨rfl, ht⟩) (va_S.rf (H0 := s.heap)).2.2 dJ0_isLatin1_aae02_18 hlocks
theorem s_length (hi : i < 5) : sCt g adV l 1 yJ0_length_8abf5 cJ0_length_8abf5 1 (some .int) [.ref (mGs g i)] (some (.int (nI (mSl.getD i 0)))) := by
  refine sMet (by decide) (Nat.le_of_ble_eq_true rfl) (fun p e R s m below meth c ls hx hfix hr hlocks hT hl hR hR2 => ?_)
  have hb := hfix.2.1
  have hts := hfix.2.2.2.2
  have hown : s.vm.findClass RJ0 = some m.cls := hfix.2.2.2.1
  have hl : lv_has ls 1 [(0, .ref (mGs g i))] := hl
  refine lv_aload_n hx hb dJ0_length_8abf5_0 rfl (lv_at hl 0 rfl) ?_
  refine vk_getf hx hb (hT.1.1 i hi).2.2.1 va_S.rf hown (hts _ (sW 1 rfl)) (fun x h => h) dJ0_length_8abf5_1 ?_
  refine va_tlen hx hb (hT.1.1 i hi).2.2.2 va_S.rf rfl dJ0_length_8abf5_4 ?_
  refine lv_aload_n hx hb dJ0_length_8abf5_5 rfl (lv_at hl 0 rfl) ?_
  refine sCallV (n := 0) (As := []) (rest := [.int (nI (mSl.getD i 0))]) hfix hT va_S.rf hi rfl (s_coder hi) (sW 6 rfl) (sW 2 rfl) (sW 3 rfl) (sW 4 rfl) (sW 5 rfl) (by decide) hR hR2 (by decide) rfl hl.1 rfl (by show 1 + 0 ≤ 8; omega) dJ0_length_8abf5_6 ⟨Nat.zero_le _, Nat.zero_le _⟩ (fun H1 locs1 eH hS => ?_)
  subst eH
  refine lv_ishr hx hb dJ0_length_8abf5_9 ?_
  have e1 : nI (mSl.getD i 0) >>> ((0 : Int32) &&& 31) = nI (mSl.getD i 0) := by
    match i, hi with
    | 0, _ => decide
    | 1, _ => decide
    | 2, _ => decide
    | 3, _ => decide
    | 4, _ => decide
    | n + 5, h => omega
  exact W.iret hx hb hr (fun t ht hW => ⟨by rw [e1], ht⟩) hS.2.2 dJ0_length_8abf5_10 hlocks
theorem s_check3 {j n : Nat} {v : Value} (hv : v = .null ∨ ∃ a, v = .ref a) (hj : j < n) (hn : n < 2 ^ 31) : sCt g adV l 0 yJ3_checkIndex_8e157 cJ3_checkIndex_8e157 3 (some .int) [.int (nI j), .int (nI n), v] (some (.int (nI j))) := by
  have hL : lg_sl [.int (nI j), .int (nI n), v] = [.val (.int (nI j)), .val (.int (nI n)), .val v] := by
    rcases hv with rfl | ⟨a, rfl⟩ <;> rfl
  refine sMet (by decide) (by rw [hL]; exact Nat.le_of_ble_eq_true rfl) (fun p e R s m below meth c ls hx hfix hr hlocks hT hl hR hR2 => ?_)
  have hb := hfix.2.1
  have hl : lv_has ls 3 [(0, .int (nI j)), (1, .int (nI n)), (2, v)] := by
    rcases hv with rfl | ⟨a, rfl⟩ <;> exact hl
  refine lv_iload_n hx hb dJ3_checkIndex_8e157_0 rfl (lv_at hl 0 rfl) ?_
  refine lv_if_lt hx hb (tgt := 9) dJ3_checkIndex_8e157_1 (by decide) (fun h => absurd h (nI_pos (by omega))) (fun h => ?_)
  refine lv_iload_n hx hb dJ3_checkIndex_8e157_4 rfl (lv_at hl 0 rfl) ?_
  refine lv_iload_n hx hb dJ3_checkIndex_8e157_5 rfl (lv_at hl 1 rfl) ?_
  refine lv_icmp_lt hx hb (tgt := 16) dJ3_checkIndex_8e157_6 (by decide) (fun h => ?_) (fun h => absurd (nI_lt hj hn) h)
  refine lv_iload_n hx hb dJ3_checkIndex_8e157_16 rfl (lv_at hl 0 rfl) ?_
  exact W.iret hx hb hr (fun t ht hW => ⟨rfl, ht⟩) (va_S.rf (H0 := s.heap)).2.2 dJ3_checkIndex_8e157_17 hlocks
theorem s_check0 {j n : Nat} (hj : j < n) (hn : n < 2 ^ 31) : sCt g adV l 1 yJ0_checkIndex_df160 cJ0_checkIndex_df160 2 none [.int (nI j), .int (nI n)] none := by
  refine sMet (by decide) (Nat.le_of_ble_eq_true rfl) (fun p e R s m below meth c ls hx hfix hr hlocks hT hl hR hR2 => ?_)
  have hb := hfix.2.1
  have hts := hfix.2.2.2.2
  have hown : s.vm.findClass RJ0 = some m.cls := hfix.2.2.2.1
  have hl : lv_has ls 2 [(0, .int (nI j)), (1, .int (nI n))] := hl
  refine lv_iload_n hx hb dJ0_checkIndex_df160_0 rfl (lv_at hl 0 rfl) ?_
  refine lv_iload_n hx hb dJ0_checkIndex_df160_1 rfl (lv_at hl 1 rfl) ?_
  have go : ∀ v : Value, (v = .null ∨ ∃ a, v = .ref a) → W p l e R s m [Value.int (nI j), Value.int (nI n)].toArray below meth c s.heap [] 0 0 (MQ below (fun _ st oc t => oc = .returned none ∧ t.heap = st.heap) [Value.int (nI j), Value.int (nI n)].toArray s 0 0 (mA g)) (F0 m 5 ls [v, .int (nI n), .int (nI j)]) := by
    intro v hv
    refine sCallS (n := 3) (As := [.int (nI j), .int (nI n), v]) (rest := []) hfix hT va_S.rf (s_check3 hv hj hn) (sW 25 rfl) (sW 22 rfl) (sW 23 rfl) (sW 24 rfl) (by decide) hR hR2 (by decide) rfl hl.1 rfl (by decide) dJ0_checkIndex_df160_5 ⟨Nat.zero_le _, Nat.zero_le _⟩ (fun H1 locs1 eH hS => ?_)
    subst eH
    refine lv_pop hx hb dJ0_checkIndex_df160_8 rfl ?_
    exact W.vret hx hb hr (fun t ht hW => ⟨rfl, ht⟩) hS.2.2 dJ0_checkIndex_df160_9 hlocks
  rcases hT.2.2 with hz | ⟨a, hz⟩
  · exact va_gets hx hb hz va_S.rf hown (hts _ (sW 21 rfl)) (fun x h => h) dJ0_checkIndex_df160_2 (go _ (Or.inl rfl))
  · exact va_gets hx hb hz va_S.rf hown (hts _ (sW 21 rfl)) (fun x h => h) dJ0_checkIndex_df160_2 (go _ (Or.inr ⟨a, rfl⟩))
theorem s_byte {j : Nat} (hi : i < 5) (hj : j < mSl.getD i 0) : ((((mSb.getD i []).getD j 0) &&& 255).toUInt32 % 65536).toInt32 = (mSb.getD i []).getD j 0 ∧ mSl.getD i 0 < 2 ^ 31 ∧ narrow .char (.int ((mSb.getD i []).getD j 0)) = .int ((mSb.getD i []).getD j 0) := by
  have key : ∀ i, i < 5 → ∀ j, j < mSl.getD i 0 → ((((mSb.getD i []).getD j 0) &&& 255).toUInt32 % 65536).toInt32 = (mSb.getD i []).getD j 0 ∧ mSl.getD i 0 < 2 ^ 31 ∧ narrow .char (.int ((mSb.getD i []).getD j 0)) = .int ((mSb.getD i []).getD j 0) := by decide +kernel
  exact key i hi j hj
theorem s_charAt1 {j : Nat} (hi : i < 5) (hj : j < mSl.getD i 0) : sCt g adV l 2 yJ1_charAt_3b067 cJ1_charAt_3b067 2 (some .char) [.ref (adV i), .int (nI j)] (some (.int ((mSb.getD i []).getD j 0))) := by
  obtain ⟨b1, b2, b3⟩ := s_byte hi hj
  refine sMet (by decide) (Nat.le_of_ble_eq_true rfl) (fun p e R s m below meth c ls hx hfix hr hlocks hT hl hR hR2 => ?_)
  have hb := hfix.2.1
  have hl : lv_has ls 2 [(0, .ref (adV i)), (1, .int (nI j))] := hl
  refine lv_iload_n hx hb dJ1_charAt_3b067_0 rfl (lv_at hl 1 rfl) ?_
  refine lv_aload_n hx hb dJ1_charAt_3b067_1 rfl (lv_at hl 0 rfl) ?_
  refine va_tlen hx hb (hT.1.1 i hi).2.2.2 va_S.rf rfl dJ1_charAt_3b067_2 ?_
  refine sCallS (n := 2) (As := [.int (nI j), .int (nI (mSl.getD i 0))]) (rest := []) hfix hT va_S.rf (s_check0 hj b2) (sW 20 rfl) (sW 18 rfl) (sW 19 rfl) (sW 5 rfl) (by decide) hR hR2 (by decide) rfl hl.1 rfl (by decide) dJ1_charAt_3b067_3 ⟨Nat.zero_le _, Nat.zero_le _⟩ (fun H1 locs1 eH hS => ?_)
  subst eH
  refine lv_aload_n hx hb dJ1_charAt_3b067_6 rfl (lv_at hl 0 rfl) ?_
  refine lv_iload_n hx hb dJ1_charAt_3b067_7 rfl (lv_at hl 1 rfl) ?_
  refine va_tb hx hb (hT.1.1 i hi).2.2.2 hS (nI_in hj b2) (v := .int ((mSb.getD i []).getD j 0)) (by rw [nI_clamp (by omega)]) dJ1_charAt_3b067_8 ?_
  refine lv_sipush hx hb dJ1_charAt_3b067_9 (v := 255) rfl ?_
  refine lv_iand hx hb dJ1_charAt_3b067_12 ?_
  refine lv_i2c hx hb dJ1_charAt_3b067_13 b1 ?_
  exact W.zret hx hb hr b3 (fun t ht hW => ⟨rfl, ht⟩) hS.2.2 dJ1_charAt_3b067_14 hlocks
theorem s_charAt {j : Nat} (hi : i < 5) (hj : j < mSl.getD i 0) : sCt g adV l 3 yJ0_charAt_5068e cJ0_charAt_5068e 2 (some .char) [.ref (mGs g i), .int (nI j)] (some (.int ((mSb.getD i []).getD j 0))) := by
  obtain ⟨b1, b2, b3⟩ := s_byte hi hj
  refine sMet (by decide) (Nat.le_of_ble_eq_true rfl) (fun p e R s m below meth c ls hx hfix hr hlocks hT hl hR hR2 => ?_)
  have hb := hfix.2.1
  have hts := hfix.2.2.2.2
  have hown : s.vm.findClass RJ0 = some m.cls := hfix.2.2.2.1
  have hl : lv_has ls 2 [(0, .ref (mGs g i)), (1, .int (nI j))] := hl
  refine lv_aload_n hx hb dJ0_charAt_5068e_0 rfl (lv_at hl 0 rfl) ?_
  refine sCallV (n := 0) (As := []) (rest := []) hfix hT va_S.rf hi rfl (s_isLatin1 hi) (sW 13 rfl) (sW 10 rfl) (sW 11 rfl) (sW 12 rfl) (sW 5 rfl) (by decide) (by omega) (by omega) (by decide) rfl hl.1 rfl (by decide) dJ0_charAt_5068e_1 ⟨Nat.zero_le _, Nat.zero_le _⟩ (fun H1 locs1 eH hS => ?_)
  subst eH
  refine lv_if_eq hx hb (tgt := 16) dJ0_charAt_5068e_4 (by decide) (fun h => absurd h (by decide)) (fun h => ?_)
  refine lv_aload_n hx hb dJ0_charAt_5068e_7 rfl (lv_at hl 0 rfl) ?_
  refine vk_getf hx hb (hT.1.1 i hi).2.2.1 hS hown (hts _ (sW 1 rfl)) (fun x h => h) dJ0_charAt_5068e_8 ?_
  refine lv_iload_n hx hb dJ0_charAt_5068e_11 rfl (lv_at hl 1 rfl) ?_
  refine sCallS (n := 2) (As := [.ref (adV i), .int (nI j)]) (rest := []) hfix hT hS (s_charAt1 hi hj) (sW 17 rfl) (sW 14 rfl) (sW 15 rfl) (sW 16 rfl) (by decide) (by omega) (by omega) (by decide) rfl hl.1 rfl (by decide) dJ0_charAt_5068e_12 ⟨Nat.zero_le _, Nat.zero_le _⟩ (fun H1 locs1 eH hS => ?_)
  subst eH
  exact W.zret hx hb hr b3 (fun t ht hW => ⟨rfl, ht⟩) hS.2.2 dJ0_charAt_5068e_15 hlocks
end ST
