set_option maxRecDepth 100000 in
theorem mOk_0 : mdL_0.all mMdOk = true := by decide +kernel
set_option maxRecDepth 100000 in
theorem mOk_1 : mdL_1.all mMdOk = true := by decide +kernel
set_option maxRecDepth 100000 in
theorem mOk_2 : mdL_2.all mMdOk = true := by decide +kernel
set_option maxRecDepth 100000 in
theorem mOk_3 : mdL_3.all mMdOk = true := by decide +kernel
