/-! the small machine: what its states are, and what they say of the heap -/
abbrev mSh : Type := List (Nat × Nat × List (Option Nat))
abbrev mHp : Type := (Nat → Nat → Int32) × (Nat → Nat → Int64) × (Nat → Nat → UInt64)
abbrev mLs : Type := List (Option Value)
abbrev mCf : Type := Nat × mLs × List Value × mSh × mHp
/-- what is fixed for a whole run: class numbers, slots, array classes, the first new address, the heap at the start, the addresses of the texts -/
abbrev mG : Type := (Nat → ClassId) × (Nat → Nat → Nat) × (Nat → ClassId) × Nat × Heap × (Nat → Nat)
abbrev mGD (g : mG) : va_G := (g.1, g.2.1)
abbrev mGc (g : mG) : Nat → ClassId := g.2.2.1
abbrev mGh (g : mG) : Nat := g.2.2.2.1
abbrev mGH (g : mG) : Heap := g.2.2.2.2.1
abbrev mGs (g : mG) : Nat → Nat := g.2.2.2.2.2
/-- where a cell of the small machine lies: a number from 1000000 on names an old cell -/
def mAl (h i : Nat) : Nat := if i < 1000000 then h + i else i - 1000000
def mE (h : Nat) : Value → Value
  | .ref i => .ref (mAl h i)
  | v => v
def mWI (σ : mHp) (i k : Nat) (v : Int32) : mHp := (fun a => if a = i then upd (σ.1 i) k v else σ.1 a, σ.2)
def mWL (σ : mHp) (i k : Nat) (v : Int64) : mHp := (σ.1, fun a => if a = i then vp_updL (σ.2.1 i) k v else σ.2.1 a, σ.2.2)
def mWD (σ : mHp) (i k : Nat) (v : UInt64) : mHp := (σ.1, σ.2.1, fun a => if a = i then vf_upd (σ.2.2 i) k v else σ.2.2 a)
/-- a new cell: all of it is zero -/
def mNew (σ : mHp) (i : Nat) : mHp := (fun a => if a = i then fun _ => 0 else σ.1 a, fun a => if a = i then fun _ => 0 else σ.2.1 a, fun a => if a = i then fun _ => 0 else σ.2.2 a)
def mFv (h : Nat) (σ : mHp) (i : Nat) (r : List (Option Nat)) (ty k : Nat) : Value :=
  if ty = 1 then .long (σ.2.1 i k) else if ty = 2 then va_rf ((r.getD k none).map (mAl h)) else .int (σ.1 i k)
def mFs (h : Nat) (σ : mHp) (i : Nat) (sh : Nat × Nat × List (Option Nat)) : List Value := (List.range sh.2.1).map (fun k => mFv h σ i sh.2.2 (mFt sh.1 k) k)
def mCell (g : mG) (σ : mHp) (i : Nat) (sh : Nat × Nat × List (Option Nat)) : va_E :=
  if sh.1 = 100 then .inl (mGc g 0, sh.2.1, .inl (σ.1 i))
  else if sh.1 = 101 then .inl (mGc g 1, sh.2.1, .inr (.inl (σ.2.1 i)))
  else if sh.1 = 102 then .inl (mGc g 2, sh.2.1, .inr (.inr (.inr (.inl (σ.2.2 i)))))
  else if sh.1 = 103 then .inl (mGc g 3, sh.2.1, .inr (.inr (.inr (.inr (fun j => (sh.2.2.getD j none).map (mAl (mGh g)))))))
  else .inr (sh.1, mFs (mGh g) σ i sh)
def mWl (g : mG) (sp : mSh) (σ : mHp) : va_W := sp.mapIdx (fun i sh => (mGh g + i, mCell g σ i sh))
def mP (g : mG) (sp : mSh) (σ : mHp) (H : Heap) : Prop := va_P (mGD g) vwCl (mWl g sp σ) H
abbrev mA (g : mG) : Nat → Prop := fun q => mGh g ≤ q
def mTys (g : mG) : List (ClassId × FieldType) := [(mGc g 0, .int), (mGc g 1, .long), (mGc g 2, .double), (mGc g 3, .object RX5)]
def mTot (sp : mSh) : Nat := (sp.map (fun e => e.2.1)).sum
/-- the texts of the class: the pool's places, and what they are -/
def mStL : List (Nat × String) := [(21, "negate"), (29, "double"), (31, "commute"), (33, "contrapose"), (35, "translate")]
def mFlC (e : Nat × Nat × Nat × Nat) : Cond := .fieldLink (mCn e.1) e.2.1 (mFd e.2.2.1 e.2.2.2).1 (mFd e.2.2.1 e.2.2.2).2.1 (mFd e.2.2.1 e.2.2.2).2.2.1
def mMlC (e : Nat × Nat × Nat) : Cond := .methodLink (mCn e.1) e.2.1 (mD e.2.2).1
def mNlC (e : Nat × Nat × Nat) : Cond := .methodLinkNest (mCn e.1) e.2.1 (mD e.2.2).1 RX8
def mClC (e : Nat × Nat × Nat) : Cond := .classLink (mCn e.1) e.2.1 (mCn e.2.2)
def mIlC (e : Nat × Nat × Int32) : Cond := .constant (mCn e.1) e.2.1 e.2.2
def mLlC (e : Nat × Nat × Int64) : Cond := .constantLong (mCn e.1) e.2.1 e.2.2
def mCoC (m : mMd) : Cond := .code m.1 m.2.2.1 m.2.2.2.1 m.2.2.2.2.1
def mStr (g : mG) (U : State) : Prop := ∀ (k : Nat) (q : Nat × String), mStL[k]? = some q → vk_R RX7 q.1 q.2 (mGs g k) U
/-- what the texts hold, and two statics of the library -/
def mSl : List Nat := [6, 6, 7, 10, 9]
def mSb : List (List Int32) := [[110, 101, 103, 97, 116, 101], [100, 111, 117, 98, 108, 101], [99, 111, 109, 109, 117, 116, 101], [99, 111, 110, 116, 114, 97, 112, 111, 115, 101], [116, 114, 97, 110, 115, 108, 97, 116, 101]]
def mTx (g : mG) (U : State) : Prop := (∃ adV : Nat → Nat, vk_S 5 mSl mSb (mGs g) adV (mA g) U (mGH g)) ∧ va_Z "java/lang/String" "COMPACT_STRINGS" "Z" (.int 1) (mA g) U (mGH g) ∧ va_Zq "jdk/internal/util/Preconditions" "SIOOBE_FORMATTER" "Ljava/util/function/BiFunction;" (mA g) U (mGH g)
theorem mTx.moved {g : mG} {s U : State} (hvm : s.vm.Alike U.vm) (h : mTx g s) : mTx g U := by
  obtain ⟨⟨adV, h1⟩, h2, h3⟩ := h
  exact ⟨⟨adV, vk_S.moved hvm h1⟩, va_Z.moved hvm h2, va_Zq.moved hvm h3⟩
def mK (g : mG) (U : State) : Prop := va_K (mGD g) vwCl (mTys g) U ∧ mStr g U ∧ (∀ e ∈ mNL, va_Nw (mNlC e) U) ∧ va_AO RX5 U ∧ mTx g U
theorem mK.warm {g : mG} {s U : State} (hW : s.WarmedH U.vm) (h : mK g s) : mK g U := ⟨va_K.moved hW.alike h.1, fun k q hq => vk_R.warm hW (h.2.1 k q hq), fun e he => va_Nw.warmM hW (h.2.2.1 e he), va_AO.moved hW.alike h.2.2.2.1, mTx.moved hW.alike h.2.2.2.2⟩
theorem mK.same {g : mG} {s U : State} (hv : U.vm = s.vm) (h : mK g s) : mK g U := ⟨va_K.moved (by rw [hv]; exact Vm.Alike.refl _) h.1, fun k q hq => vk_R.same hv (h.2.1 k q hq), fun e he => va_Nw.same rfl hv.symm (h.2.2.1 e he), va_AO.moved (by rw [hv]; exact Vm.Alike.refl _) h.2.2.2.1, mTx.moved (by rw [hv]; exact Vm.Alike.refl _) h.2.2.2.2⟩
theorem mWl_at {g : mG} {sp : mSh} {σ : mHp} {i : Nat} {sh : Nat × Nat × List (Option Nat)} (h : sp[i]? = some sh) : (mWl g sp σ)[i]? = some (mGh g + i, mCell g σ i sh) := by
  simp [mWl, List.getElem?_mapIdx, h]
theorem mWl_len (g : mG) (sp : mSh) (σ : mHp) : (mWl g sp σ).length = sp.length := by simp [mWl]
theorem mWl_of {g : mG} {sp : mSh} {σ : mHp} {i : Nat} {q : Nat × va_E} (h : (mWl g sp σ)[i]? = some q) : ∃ sh, sp[i]? = some sh ∧ q = (mGh g + i, mCell g σ i sh) := by
  simp only [mWl, List.getElem?_mapIdx] at h
  cases hs : sp[i]? with
  | none => simp [hs] at h
  | some sh => simp [hs] at h; exact ⟨sh, rfl, h.symm⟩
theorem mWl_D (g : mG) (sp : mSh) (σ : mHp) : va_D (mA g) (mWl g sp σ) := by
  refine ⟨fun i j p q hi hj hpq => ?_, fun k q hk => ?_⟩
  · obtain ⟨_, _, rfl⟩ := mWl_of hi
    obtain ⟨_, _, rfl⟩ := mWl_of hj
    have : mGh g + i = mGh g + j := hpq
    omega
  · obtain ⟨_, _, rfl⟩ := mWl_of hk
    exact Nat.le_add_right _ _
theorem mP_lt {g : mG} {sp : mSh} {σ : mHp} {H : Heap} (h : mP g sp σ H) {i : Nat} (hi : i < sp.length) : mGh g + i < H.size := by
  have h1 : sp[i]? = some sp[i] := List.getElem?_eq_getElem hi
  exact (h i _ (mWl_at h1)).lt
theorem mP_le {g : mG} {sp : mSh} {σ : mHp} {H : Heap} (h : mP g sp σ H) (h0 : mGh g ≤ H.size) : mGh g + sp.length ≤ H.size := by
  rcases Nat.eq_zero_or_pos sp.length with h1 | h1
  · omega
  · have := mP_lt h (i := sp.length - 1) (by omega)
    omega
/-- a changed cell: the list with one entry set is the list of the changed heap -/
theorem mWl_set {g : mG} {sp sp' : mSh} {σ σ' : mHp} {i : Nat} {e : va_E} {sh : Nat × Nat × List (Option Nat)} (hl : sp'.length = sp.length) (hi : sp'[i]? = some sh) (he : mCell g σ' i sh = e) (hr : ∀ j, j ≠ i → sp'[j]? = sp[j]?) (hc : ∀ j sh, j ≠ i → mCell g σ' j sh = mCell g σ j sh) : (mWl g sp σ).set i (mGh g + i, e) = mWl g sp' σ' := by
  apply List.ext_getElem?
  intro j
  by_cases hj : j = i
  · subst hj
    have hlt : j < sp.length := by rw [← hl]; exact (List.getElem?_eq_some_iff.mp hi).1
    rw [List.getElem?_set_self (by rw [mWl_len]; exact hlt), mWl_at hi, he]
  · rw [List.getElem?_set_ne (fun h => hj h.symm)]
    simp only [mWl, List.getElem?_mapIdx, hr j hj]
    cases sp[j]? with
    | none => rfl
    | some sh => simp [hc j sh hj]
theorem mWl_push {g : mG} {sp : mSh} {σ σ' : mHp} {sh : Nat × Nat × List (Option Nat)} {e : va_E} (he : mCell g σ' sp.length sh = e) (hc : ∀ j sh, j ≠ sp.length → mCell g σ' j sh = mCell g σ j sh) : mWl g sp σ ++ [(mGh g + sp.length, e)] = mWl g (sp ++ [sh]) σ' := by
  apply List.ext_getElem?
  intro j
  rcases Nat.lt_trichotomy j sp.length with h | h | h
  · rw [List.getElem?_append_left (by rw [mWl_len]; exact h)]
    simp only [mWl, List.getElem?_mapIdx, List.getElem?_append_left h]
    cases sp[j]? with
    | none => rfl
    | some sh => simp [hc j sh (by omega)]
  · subst h
    rw [List.getElem?_append_right (by rw [mWl_len]; exact Nat.le_refl _), mWl_len]
    simp [mWl, List.getElem?_mapIdx, he]
  · rw [List.getElem?_eq_none (by simp [mWl_len]; omega), List.getElem?_eq_none (by simp [mWl_len]; omega)]
theorem mCell_WI {g : mG} {σ : mHp} {i k : Nat} {v : Int32} {j : Nat} {sh : Nat × Nat × List (Option Nat)} (h : j ≠ i) : mCell g (mWI σ i k v) j sh = mCell g σ j sh := by
  simp [mCell, mFs, mFv, mWI, h]
theorem mCell_WL {g : mG} {σ : mHp} {i k : Nat} {v : Int64} {j : Nat} {sh : Nat × Nat × List (Option Nat)} (h : j ≠ i) : mCell g (mWL σ i k v) j sh = mCell g σ j sh := by
  simp [mCell, mFs, mFv, mWL, h]
theorem mCell_WD {g : mG} {σ : mHp} {i k : Nat} {v : UInt64} {j : Nat} {sh : Nat × Nat × List (Option Nat)} (h : j ≠ i) : mCell g (mWD σ i k v) j sh = mCell g σ j sh := by
  simp [mCell, mFs, mFv, mWD, h]
theorem mCell_New {g : mG} {σ : mHp} {i : Nat} {j : Nat} {sh : Nat × Nat × List (Option Nat)} (h : j ≠ i) : mCell g (mNew σ i) j sh = mCell g σ j sh := by
  simp [mCell, mFs, mFv, mNew, h]
theorem mFs_at {h : Nat} {σ : mHp} {i k : Nat} {sh : Nat × Nat × List (Option Nat)} (hk : k < sh.2.1) : (mFs h σ i sh)[k]? = some (mFv h σ i sh.2.2 (mFt sh.1 k) k) := by
  simp [mFs, hk]
/-! locals -/
def mLp (h : Nat) : Nat → mLs → List (Nat × Value)
  | _, [] => []
  | i, none :: t => mLp h (i + 1) t
  | i, some v :: t => (i, mE h v) :: mLp h (i + 1) t
theorem mLp_mem {h : Nat} : ∀ {L : mLs} {i : Nat} {q : Nat × Value}, q ∈ mLp h i L ↔ ∃ (k : Nat) (v : Value), q = (i + k, mE h v) ∧ L[k]? = some (some v) := by
  intro L
  induction L with
  | nil => intro i q; simp [mLp]
  | cons a t ih =>
    intro i q
    have e : ∀ k : Nat, i + 1 + k = i + (k + 1) := fun k => by omega
    cases a with
    | none =>
      simp only [mLp, ih]
      constructor
      · rintro ⟨k, v, rfl, hk⟩
        exact ⟨k + 1, v, by rw [e], by simpa using hk⟩
      · rintro ⟨k, v, rfl, hk⟩
        cases k with
        | zero => simp at hk
        | succ k => exact ⟨k, v, by rw [e], by simpa using hk⟩
    | some w =>
      simp only [mLp, List.mem_cons, ih]
      constructor
      · rintro (rfl | ⟨k, v, rfl, hk⟩)
        · exact ⟨0, w, rfl, rfl⟩
        · exact ⟨k + 1, v, by rw [e], by simpa using hk⟩
      · rintro ⟨k, v, rfl, hk⟩
        cases k with
        | zero => simp at hk; subst hk; exact Or.inl rfl
        | succ k => exact Or.inr ⟨k, v, by rw [e], by simpa using hk⟩
def mLoc (h : Nat) (ls : Array Slot) (nL : Nat) (L : mLs) : Prop := L.length = nL ∧ lv_has ls nL (mLp h 0 L)
theorem mLoc.at {h : Nat} {ls : Array Slot} {nL : Nat} {L : mLs} (hl : mLoc h ls nL L) {i : Nat} {v : Value} (hi : L[i]? = some (some v)) : ls[i]? = some (.val (mE h v)) :=
  hl.2.2.2 (i, mE h v) (mLp_mem.mpr ⟨i, v, by simp, hi⟩)
theorem mE_cat (h : Nat) (v : Value) : (mE h v).category = v.category := by cases v <;> rfl
/-- locals read -/
def mGet : mLs → Nat → Option Value
  | [], _ => none
  | a :: _, 0 => a
  | _ :: t, i + 1 => mGet t i
theorem mGet_at : ∀ {L : mLs} {i : Nat} {v : Value}, mGet L i = some v → L[i]? = some (some v) := by
  intro L
  induction L with
  | nil => intro i v h; simp [mGet] at h
  | cons a t ih =>
    intro i v h
    cases i with
    | zero => simp [mGet] at h; simp [h]
    | succ i => simp [mGet] at h; simpa using ih h
/-- locals written: the rest goes on with the list, all of it worked out -/
def mSet {β : Type} : mLs → Nat → Value → (mLs → Option β) → Option β
  | [], _, _, _ => none
  | _ :: t, 0, v, k => k (some v :: t)
  | a :: t, i + 1, v, k => mSet t i v (fun t' => match i, a with
    | 0, some (.long _) => k (none :: t')
    | 0, some (.double _) => k (none :: t')
    | _, a => k (a :: t'))
def mSet2 {β : Type} : mLs → Nat → Value → (mLs → Option β) → Option β
  | [], _, _, _ => none
  | [_], _, _, _ => none
  | _ :: _ :: t, 0, v, k => k (some v :: none :: t)
  | a :: b :: t, i + 1, v, k => mSet2 (b :: t) i v (fun t' => match i, a with
    | 0, some (.long _) => k (none :: t')
    | 0, some (.double _) => k (none :: t')
    | _, a => k (a :: t'))
theorem mSet_spec {β : Type} : ∀ {L : mLs} {i : Nat} {v : Value} {k : mLs → Option β} {b : β}, mSet L i v k = some b → ∃ L', k L' = some b ∧ L'.length = L.length ∧ i < L.length ∧ ∀ (j : Nat) (w : Value), L'[j]? = some (some w) → (j = i ∧ w = v) ∨ (L[j]? = some (some w) ∧ j ≠ i ∧ ¬ (j + 1 = i ∧ w.category = 2)) := by
  intro L
  induction L with
  | nil => intro i v k b h; simp [mSet] at h
  | cons a t ih =>
    intro i v k b h
    cases i with
    | zero =>
      simp only [mSet] at h
      refine ⟨_, h, by simp, by simp, fun j w hj => ?_⟩
      cases j with
      | zero => simp at hj; exact Or.inl ⟨rfl, hj.symm⟩
      | succ j => exact Or.inr ⟨by simpa using hj, by omega, by omega⟩
    | succ i =>
      simp only [mSet] at h
      obtain ⟨t', hk, hlen, hlt, hspec⟩ := ih h
      have key : ∃ a', k (a' :: t') = some b ∧ (∀ w, a' = some w → a = some w ∧ ¬ (0 = i ∧ w.category = 2)) := by
        split at hk
        · exact ⟨none, hk, fun w hw => by cases hw⟩
        · exact ⟨none, hk, fun w hw => by cases hw⟩
        · rename_i x0 h1 h2
          refine ⟨a, hk, fun w hw => ⟨hw, fun hc => ?_⟩⟩
          subst hw
          obtain ⟨hi0, hc⟩ := hc
          cases w with
          | long y => exact h1 y hi0.symm rfl
          | double y => exact h2 y hi0.symm rfl
          | _ => simp [Value.category] at hc
      obtain ⟨a', hk', ha'⟩ := key
      refine ⟨a' :: t', hk', by simp [hlen], by simp; omega, fun j w hj => ?_⟩
      cases j with
      | zero =>
        simp at hj
        obtain ⟨h1, h2⟩ := ha' w hj
        exact Or.inr ⟨by simp [h1], by omega, fun hc => h2 ⟨by omega, hc.2⟩⟩
      | succ j =>
        rcases hspec j w (by simpa using hj) with h1 | h1
        · exact Or.inl ⟨by omega, h1.2⟩
        · exact Or.inr ⟨by simpa using h1.1, by omega, fun hc => h1.2.2 ⟨by omega, hc.2⟩⟩
theorem mSet2_spec {β : Type} : ∀ {L : mLs} {i : Nat} {v : Value} {k : mLs → Option β} {b : β}, mSet2 L i v k = some b → ∃ L', k L' = some b ∧ L'.length = L.length ∧ i + 1 < L.length ∧ ∀ (j : Nat) (w : Value), L'[j]? = some (some w) → (j = i ∧ w = v) ∨ (L[j]? = some (some w) ∧ j ≠ i ∧ j ≠ i + 1 ∧ ¬ (j + 1 = i ∧ w.category = 2)) := by
  intro L
  induction L with
  | nil => intro i v k b h; simp [mSet2] at h
  | cons a t ih =>
    intro i v k b h
    cases t with
    | nil => cases i <;> simp [mSet2] at h
    | cons b0 t =>
    cases i with
    | zero =>
      simp only [mSet2] at h
      refine ⟨_, h, by simp, by simp, fun j w hj => ?_⟩
      match j, hj with
      | 0, hj => simp at hj; exact Or.inl ⟨rfl, hj.symm⟩
      | 1, hj => simp at hj
      | j + 2, hj => exact Or.inr ⟨by simpa using hj, by omega, by omega, by omega⟩
    | succ i =>
      simp only [mSet2] at h
      obtain ⟨t', hk, hlen, hlt, hspec⟩ := ih h
      have key : ∃ a', k (a' :: t') = some b ∧ (∀ w, a' = some w → a = some w ∧ ¬ (0 = i ∧ w.category = 2)) := by
        split at hk
        · exact ⟨none, hk, fun w hw => by cases hw⟩
        · exact ⟨none, hk, fun w hw => by cases hw⟩
        · rename_i x0 h1 h2
          refine ⟨a, hk, fun w hw => ⟨hw, fun hc => ?_⟩⟩
          subst hw
          obtain ⟨hi0, hc⟩ := hc
          cases w with
          | long y => exact h1 y hi0.symm rfl
          | double y => exact h2 y hi0.symm rfl
          | _ => simp [Value.category] at hc
      obtain ⟨a', hk', ha'⟩ := key
      refine ⟨a' :: t', hk', by simp [hlen], by simp at hlt ⊢; omega, fun j w hj => ?_⟩
      cases j with
      | zero =>
        simp at hj
        obtain ⟨h1, h2⟩ := ha' w hj
        exact Or.inr ⟨by simp [h1], by omega, by omega, fun hc => h2 ⟨by omega, hc.2⟩⟩
      | succ j =>
        rcases hspec j w (by simpa using hj) with h1 | h1
        · exact Or.inl ⟨by omega, h1.2⟩
        · exact Or.inr ⟨by simpa using h1.1, by omega, by omega, fun hc => h1.2.2.2 ⟨by omega, hc.2⟩⟩
theorem mLoc.set1 {h : Nat} {ls ls' : Array Slot} {nL : Nat} {L L' : mLs} {i : Nat} {v : Value} (hlen : L'.length = nL) (hv : lv_has ls' nL ((i, mE h v) :: (mLp h 0 L).filter (fun q => !(q.1 == i) && !(q.1 + 1 == i && q.2.category == 2)))) (hs : ∀ (j : Nat) (w : Value), L'[j]? = some (some w) → (j = i ∧ w = v) ∨ (L[j]? = some (some w) ∧ j ≠ i ∧ ¬ (j + 1 = i ∧ w.category = 2))) : mLoc h ls' nL L' := by
  refine ⟨hlen, hv.1, hv.2.1, fun q hq => hv.2.2 q ?_⟩
  obtain ⟨k, w, rfl, hk⟩ := mLp_mem.mp hq
  rcases hs k w hk with ⟨h1, h2⟩ | ⟨h1, h2, h3⟩
  · subst h1; subst h2; simp
  · refine List.mem_cons_of_mem _ (List.mem_filter.mpr ⟨mLp_mem.mpr ⟨k, w, rfl, h1⟩, ?_⟩)
    simp only [Nat.zero_add, mE_cat]
    simp [h2]
    omega
theorem mLoc.set2 {h : Nat} {ls ls' : Array Slot} {nL : Nat} {L L' : mLs} {i : Nat} {v : Value} (hlen : L'.length = nL) (hv : lv_has ls' nL ((i, mE h v) :: (mLp h 0 L).filter (fun q => !(q.1 == i) && (!(q.1 == i + 1) && !(q.1 + 1 == i && q.2.category == 2))))) (hs : ∀ (j : Nat) (w : Value), L'[j]? = some (some w) → (j = i ∧ w = v) ∨ (L[j]? = some (some w) ∧ j ≠ i ∧ j ≠ i + 1 ∧ ¬ (j + 1 = i ∧ w.category = 2))) : mLoc h ls' nL L' := by
  refine ⟨hlen, hv.1, hv.2.1, fun q hq => hv.2.2 q ?_⟩
  obtain ⟨k, w, rfl, hk⟩ := mLp_mem.mp hq
  rcases hs k w hk with ⟨h1, h2⟩ | ⟨h1, h2, h4, h3⟩
  · subst h1; subst h2; simp
  · refine List.mem_cons_of_mem _ (List.mem_filter.mpr ⟨mLp_mem.mpr ⟨k, w, rfl, h1⟩, ?_⟩)
    simp only [Nat.zero_add, mE_cat]
    simp [h2, h4]
    omega
/-- fewer locals are known -/
theorem mLoc.weak {h : Nat} {ls : Array Slot} {nL : Nat} {L L' : mLs} (hl : mLoc h ls nL L) (hlen : L'.length = L.length) (hs : ∀ (j : Nat) (w : Value), L'[j]? = some (some w) → L[j]? = some (some w)) : mLoc h ls nL L' := by
  refine ⟨hlen.trans hl.1, hl.2.1, hl.2.2.1, fun q hq => hl.2.2.2 q ?_⟩
  obtain ⟨k, w, rfl, hk⟩ := mLp_mem.mp hq
  exact mLp_mem.mpr ⟨k, w, rfl, hs k w hk⟩
