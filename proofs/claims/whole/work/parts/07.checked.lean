set_option maxRecDepth 100000 in
theorem mOk_0 : mdL_0.all mMdOk = true := by decide +kernel
set_option maxRecDepth 100000 in
theorem mOk_1 : mdL_1.all mMdOk = true := by decide +kernel
set_option maxRecDepth 100000 in
theorem mOk_2 : mdL_2.all mMdOk = true := by decide +kernel
set_option maxRecDepth 100000 in
theorem mOk_3 : mdL_3.all mMdOk = true := by decide +kernel
set_option maxRecDepth 100000 in
theorem mOk_4 : mdL_4.all mMdOk = true := by decide +kernel
theorem mOk_all : ∀ m ∈ mdL, mMdOk m = true := by
  intro m hm
  simp only [mdL, List.mem_append] at hm
  rcases hm with h | h | h | h | h
  · exact List.all_eq_true.mp mOk_0 m h
  · exact List.all_eq_true.mp mOk_1 m h
  · exact List.all_eq_true.mp mOk_2 m h
  · exact List.all_eq_true.mp mOk_3 m h
  · exact List.all_eq_true.mp mOk_4 m h
theorem mD_mem {a : Nat} (h : a < mdL.length) : mD a ∈ mdL := by
  unfold mD
  rw [List.getD_eq_getElem?_getD, List.getElem?_eq_getElem h]
  exact List.getElem_mem h
