set_option maxRecDepth 100000 in
theorem mOkl_0 : mt_law_0.all (fun ch => ch.all (mRowOk 10 cL_law false)) = true := by decide +kernel
set_option maxRecDepth 100000 in
theorem mOkl_1 : mt_law_1.all (fun ch => ch.all (mRowOk 10 cL_law false)) = true := by decide +kernel
set_option maxRecDepth 100000 in
theorem mOkl_2 : mt_law_2.all (fun ch => ch.all (mRowOk 10 cL_law false)) = true := by decide +kernel
set_option maxRecDepth 100000 in
theorem mOkl_3 : mt_law_3.all (fun ch => ch.all (mRowOk 10 cL_law false)) = true := by decide +kernel
set_option maxRecDepth 100000 in
theorem mOkl_4 : mt_law_4.all (fun ch => ch.all (mRowOk 10 cL_law false)) = true := by decide +kernel
set_option maxRecDepth 100000 in
theorem mOkl_5 : mt_law_5.all (fun ch => ch.all (mRowOk 10 cL_law false)) = true := by decide +kernel
set_option maxRecDepth 100000 in
theorem mOkl_6 : mt_law_6.all (fun ch => ch.all (mRowOk 10 cL_law false)) = true := by decide +kernel
set_option maxRecDepth 100000 in
theorem mOkl_7 : mt_law_7.all (fun ch => ch.all (mRowOk 10 cL_law false)) = true := by decide +kernel
set_option maxRecDepth 100000 in
theorem mOkl_8 : mt_law_8.all (fun ch => ch.all (mRowOk 10 cL_law false)) = true := by decide +kernel
set_option maxRecDepth 100000 in
theorem mOkl_9 : mt_law_9.all (fun ch => ch.all (mRowOk 10 cL_law false)) = true := by decide +kernel
set_option maxRecDepth 100000 in
theorem mOkl_10 : mt_law_10.all (fun ch => ch.all (mRowOk 10 cL_law false)) = true := by decide +kernel
set_option maxRecDepth 100000 in
theorem mOkl_11 : mt_law_11.all (fun ch => ch.all (mRowOk 10 cL_law false)) = true := by decide +kernel
set_option maxRecDepth 100000 in
theorem mOkl_12 : mt_law_12.all (fun ch => ch.all (mRowOk 10 cL_law false)) = true := by decide +kernel
set_option maxRecDepth 100000 in
theorem mOkl_13 : mt_law_13.all (fun ch => ch.all (mRowOk 10 cL_law false)) = true := by decide +kernel
set_option maxRecDepth 100000 in
theorem mOkl_14 : mt_law_14.all (fun ch => ch.all (mRowOk 10 cL_law false)) = true := by decide +kernel
set_option maxRecDepth 100000 in
theorem mOkl_15 : mt_law_15.all (fun ch => ch.all (mRowOk 10 cL_law false)) = true := by decide +kernel
set_option maxRecDepth 100000 in
theorem mOkl_16 : mt_law_16.all (fun ch => ch.all (mRowOk 10 cL_law false)) = true := by decide +kernel
set_option maxRecDepth 100000 in
theorem mOkl_17 : mt_law_17.all (fun ch => ch.all (mRowOk 10 cL_law false)) = true := by decide +kernel
set_option maxRecDepth 100000 in
theorem mOkl_18 : mt_law_18.all (fun ch => ch.all (mRowOk 10 cL_law false)) = true := by decide +kernel
theorem mOk_law : mMdOk md_law = true := by
  have h : mt_law.all (fun ch => ch.all (mRowOk 10 cL_law false)) = true := by
    simp only [mt_law, List.all_append, mOkl_0, mOkl_1, mOkl_2, mOkl_3, mOkl_4, mOkl_5, mOkl_6, mOkl_7, mOkl_8, mOkl_9, mOkl_10, mOkl_11, mOkl_12, mOkl_13, mOkl_14, mOkl_15, mOkl_16, mOkl_17, mOkl_18, Bool.and_self]
  have h2 : ((yL_law.name == "<init>") = false) := by decide +kernel
  show (mt_law.all (fun ch => ch.all (mRowOk 10 cL_law (yL_law.name == "<init>"))) && _ && _ && _) = true
  rw [h2, h]
  decide +kernel
