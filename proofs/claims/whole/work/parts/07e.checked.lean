set_option maxRecDepth 100000 in
theorem mOk_16 : mdL_16.all mMdOk = true := by decide +kernel
set_option maxRecDepth 100000 in
theorem mOk_17 : mdL_17.all mMdOk = true := by decide +kernel
set_option maxRecDepth 100000 in
theorem mOk_18 : mdL_18.all mMdOk = true := by decide +kernel
set_option maxRecDepth 100000 in
theorem mOk_19 : mdL_19.all mMdOk = true := by decide +kernel
theorem mOk_all : ∀ m ∈ mdL, mMdOk m = true := by
  intro m hm
  simp only [mdL, List.mem_append] at hm
  rcases hm with h | h | h | h | h | h | h | h | h | h | h | h | h | h | h | h | h | h | h | h
  · exact List.all_eq_true.mp mOk_0 m h
  · exact List.all_eq_true.mp mOk_1 m h
  · exact List.all_eq_true.mp mOk_2 m h
  · exact List.all_eq_true.mp mOk_3 m h
  · exact List.all_eq_true.mp mOk_4 m h
  · exact List.all_eq_true.mp mOk_5 m h
  · exact List.all_eq_true.mp mOk_6 m h
  · exact List.all_eq_true.mp mOk_7 m h
  · exact List.all_eq_true.mp mOk_8 m h
  · exact List.all_eq_true.mp mOk_9 m h
  · exact List.all_eq_true.mp mOk_10 m h
  · exact List.all_eq_true.mp mOk_11 m h
  · exact List.all_eq_true.mp mOk_12 m h
  · exact List.all_eq_true.mp mOk_13 m h
  · exact List.all_eq_true.mp mOk_14 m h
  · exact List.all_eq_true.mp mOk_15 m h
  · exact List.all_eq_true.mp mOk_16 m h
  · exact List.all_eq_true.mp mOk_17 m h
  · exact List.all_eq_true.mp mOk_18 m h
  · exact List.all_eq_true.mp mOk_19 m h
theorem mD_mem {a : Nat} (h : a < mdL.length) : mD a ∈ mdL := by
  unfold mD
  rw [List.getD_eq_getElem?_getD, List.getElem?_eq_getElem h]
  exact List.getElem_mem h

