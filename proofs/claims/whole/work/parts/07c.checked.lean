set_option maxRecDepth 100000 in
theorem mOk_8 : mdL_8.all mMdOk = true := by decide +kernel
set_option maxRecDepth 100000 in
theorem mOk_9 : mdL_9.all mMdOk = true := by decide +kernel
set_option maxRecDepth 100000 in
theorem mOk_10 : mdL_10.all mMdOk = true := by decide +kernel
set_option maxRecDepth 100000 in
theorem mOk_11 : mdL_11.all mMdOk = true := by decide +kernel
