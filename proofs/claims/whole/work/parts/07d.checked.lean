set_option maxRecDepth 100000 in
theorem mOk_12 : mdL_12.all mMdOk = true := by decide +kernel
set_option maxRecDepth 100000 in
theorem mOk_13 : mdL_13.all mMdOk = true := by decide +kernel
set_option maxRecDepth 100000 in
theorem mOk_14 : mdL_14.all mMdOk = true := by decide +kernel
set_option maxRecDepth 100000 in
theorem mOk_15 : mdL_15.all mMdOk = true := by decide +kernel
