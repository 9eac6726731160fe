set_option maxRecDepth 100000 in
theorem mOk_4 : mdL_4.all mMdOk = true := by decide +kernel
set_option maxRecDepth 100000 in
theorem mOk_5 : mdL_5.all mMdOk = true := by decide +kernel
set_option maxRecDepth 100000 in
theorem mOk_6 : mdL_6.all mMdOk = true := by decide +kernel
set_option maxRecDepth 100000 in
theorem mOk_7 : mdL_7.all mMdOk = true := by decide +kernel
