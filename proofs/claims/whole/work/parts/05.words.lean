/-! the words that the small machine's rows stand on -/
theorem mIn_of {α : Type} (l : List α) (f : α → Cond) (ps : List Nat) (hp : l.map f = ps.filterMap (fun i => lw_tbl[i]?)) (hg : (l.map f).all goodWord = true) : ∀ e ∈ l, f e ∈ mTB := by
  intro e he
  have h1 : f e ∈ l.map f := List.mem_map_of_mem he
  have h2 := List.all_eq_true.mp hg _ h1
  rw [hp] at h1
  obtain ⟨i, -, hi⟩ := List.mem_filterMap.mp h1
  exact List.mem_filter.mpr ⟨List.mem_of_getElem? hi, h2⟩
theorem mTB_good : GoodIn mTB mTB := fun w hw => ⟨hw, good_of_word (List.mem_filter.mp hw).2⟩
set_option maxRecDepth 100000 in
theorem mFL_in : ∀ e ∈ mFL, mFlC e ∈ mTB := mIn_of mFL mFlC mFLp rfl (by decide +kernel)
set_option maxRecDepth 100000 in
theorem mML_in : ∀ e ∈ mML, mMlC e ∈ mTB := mIn_of mML mMlC mMLp rfl (by decide +kernel)
set_option maxRecDepth 100000 in
theorem mCL_in : ∀ e ∈ mCL, mClC e ∈ mTB := mIn_of mCL mClC mCLp rfl (by decide +kernel)
set_option maxRecDepth 100000 in
theorem mIL_in : ∀ e ∈ mIL, mIlC e ∈ mTB := mIn_of mIL mIlC mILp rfl (by decide +kernel)
set_option maxRecDepth 100000 in
theorem mLL_in : ∀ e ∈ mLL, mLlC e ∈ mTB := mIn_of mLL mLlC mLLp rfl (by decide +kernel)
set_option maxRecDepth 100000 in
theorem mCo_in : ∀ m ∈ mdL, mCoC m ∈ mTB := mIn_of mdL mCoC mCp rfl (by decide +kernel)
set_option maxRecDepth 100000 in
theorem mIv_in : ∀ a ∈ mIv, Cond.instanceMethod (mD a).1 ∈ mTB := mIn_of mIv (fun a => .instanceMethod (mD a).1) mIvp rfl (by decide +kernel)
set_option maxRecDepth 100000 in
theorem mSv_in : ∀ a ∈ mSv, Cond.selects (mCn (mD a).2.1) (mD a).1 (mD a).1 ∈ mTB := mIn_of mSv (fun a => .selects (mCn (mD a).2.1) (mD a).1 (mD a).1) mSvp rfl (by decide +kernel)
set_option maxRecDepth 100000 in
theorem mTv_in : ∀ a ∈ mTv, Cond.static (mD a).1 ∈ mTB := mIn_of mTv (fun a => .static (mD a).1) mTvp rfl (by decide +kernel)
set_option maxRecDepth 100000 in
theorem mNv_in : ∀ o ∈ mNv, Cond.initialized (mCn o) ∈ mTB := mIn_of mNv (fun o => .initialized (mCn o)) mNvp rfl (by decide +kernel)
set_option maxRecDepth 100000 in
theorem mAr_in : ∀ t ∈ ([.int, .long, .double] : List FieldType), Cond.arrayClass t ∈ mTB := mIn_of _ (fun t => .arrayClass t) [125, 126, 332] rfl (by decide +kernel)
/-- an object's class can be made: of ten classes -/
def mInL : List (String × Nat) := vwCl.map (fun q => (q.1, q.2.2))
set_option maxRecDepth 100000 in
theorem mIn_in : ∀ q ∈ mInL, Cond.instantiable q.1 q.2 ∈ lw_tbl ∧ goodWord (Cond.instantiable q.1 q.2) = true := by decide +kernel
theorem mIn_tb : ∀ q ∈ mInL, Cond.instantiable q.1 q.2 ∈ mTB := fun q hq => List.mem_filter.mpr (mIn_in q hq)
set_option maxRecDepth 100000 in
theorem mLay_in : ∀ q ∈ vwCl, ∀ w ∈ u_ws q.1 q.2.1 q.2.2, w ∈ lw_tbl ∧ goodWord w = true := by decide +kernel
theorem mLay_tb : ∀ q ∈ vwCl, ∀ w ∈ u_ws q.1 q.2.1 q.2.2, w ∈ mTB := fun q hq w hw => List.mem_filter.mpr (mLay_in q hq w hw)
set_option maxRecDepth 100000 in
theorem mObj_in : (Cond.instanceMethod Lib.objectInit ∈ mTB ∧ Cond.code Lib.objectInit ⟨#[0xb1]⟩ 1 none ∈ mTB) := by
  refine ⟨List.mem_filter.mpr (by decide +kernel), List.mem_filter.mpr (by decide +kernel)⟩
/-- the types of the fields of the ten classes -/
def mTy (c : Nat) : Nat → FieldType := match c with
  | 0 => tyX0
  | 1 => tyX1
  | 2 => tyX2
  | 3 => tyX3
  | 4 => tyX4
  | 5 => tyX5
  | 6 => tyX6
  | 7 => tyX7
  | 8 => tyX8
  | _ => tyX9
theorem mTy_ok {ci : Nat} {q : vw_C} (h : vwCl[ci]? = some q) : ∀ k, k < q.2.2 → parseFieldDescriptor (q.2.1 k).2.2.1 = some (mTy ci k) := by
  match ci, h with
  | 0, h => cases h; exact tyX0_ok
  | 1, h => cases h; exact tyX1_ok
  | 2, h => cases h; exact tyX2_ok
  | 3, h => cases h; exact tyX3_ok
  | 4, h => cases h; exact tyX4_ok
  | 5, h => cases h; exact tyX5_ok
  | 6, h => cases h; exact tyX6_ok
  | 7, h => cases h; exact tyX7_ok
  | 8, h => cases h; exact tyX8_ok
  | 9, h => cases h; exact tyX9_ok
  | n + 10, h => simp [vwCl] at h
theorem mNm_ok {ci : Nat} {q : vw_C} (h : vwCl[ci]? = some q) : ∀ a, a < q.2.2 → ∀ b, b < q.2.2 → a ≠ b → (q.2.1 a).2.1 ≠ (q.2.1 b).2.1 := by
  match ci, h with
  | 0, h => cases h; exact nmX0
  | 1, h => cases h; exact nmX1
  | 2, h => cases h; exact nmX2
  | 3, h => cases h; exact nmX3
  | 4, h => cases h; exact nmX4
  | 5, h => cases h; exact nmX5
  | 6, h => cases h; exact nmX6
  | 7, h => cases h; exact nmX7
  | 8, h => cases h; exact nmX8
  | 9, h => cases h; exact nmX9
  | n + 10, h => simp [vwCl] at h
/-- what the number of a field's type says of it -/
def mTyC (t : FieldType) : Nat := match t with
  | .int => 0
  | .long => 1
  | .object _ => 2
  | .array _ => 2
  | .boolean => 3
  | _ => 9
set_option maxRecDepth 100000 in
theorem mTyC_ok : ∀ ci, ci < 10 → ∀ k, k < ((vwCl[ci]?).getD ("", fun _ => ("", "", "", false), 0)).2.2 → mTyC (mTy ci k) = mFt ci k := by decide +kernel
