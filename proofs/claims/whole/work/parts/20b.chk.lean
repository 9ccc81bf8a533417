set_option maxRecDepth 100000 in
theorem chk_40 : mChkMQ 40 = true := by decide +kernel
set_option maxRecDepth 100000 in
theorem chk_41 : mChkMQ 41 = true := by decide +kernel
set_option maxRecDepth 100000 in
theorem chk_42 : mChkMQ 42 = true := by decide +kernel
set_option maxRecDepth 100000 in
theorem chk_43 : mChkMQ 43 = true := by decide +kernel
set_option maxRecDepth 100000 in
theorem chk_44 : mChkMQ 44 = true := by decide +kernel
set_option maxRecDepth 100000 in
theorem chk_45 : mChkMQ 45 = true := by decide +kernel
set_option maxRecDepth 100000 in
theorem chk_46 : mChkMQ 46 = true := by decide +kernel
set_option maxRecDepth 100000 in
theorem chk_47 : mChkMQ 47 = true := by decide +kernel
set_option maxRecDepth 100000 in
theorem chk_48 : mChkMQ 48 = true := by decide +kernel
set_option maxRecDepth 100000 in
theorem chk_49 : mChkMQ 49 = true := by decide +kernel
set_option maxRecDepth 100000 in
theorem chk_50 : mChkMQ 50 = true := by decide +kernel
set_option maxRecDepth 100000 in
theorem chk_51 : mChkMQ 51 = true := by decide +kernel
set_option maxRecDepth 100000 in
theorem chk_52 : mChkMQ 52 = true := by decide +kernel
set_option maxRecDepth 100000 in
theorem chk_53 : mChkMQ 53 = true := by decide +kernel
set_option maxRecDepth 100000 in
theorem chk_54 : mChkMQ 54 = true := by decide +kernel
set_option maxRecDepth 100000 in
theorem chk_55 : mChkMQ 55 = true := by decide +kernel
set_option maxRecDepth 100000 in
theorem chk_56 : mChkMQ 56 = true := by decide +kernel
set_option maxRecDepth 100000 in
theorem chk_57 : mChkMQ 57 = true := by decide +kernel
set_option maxRecDepth 100000 in
theorem chk_58 : mChkMQ 58 = true := by decide +kernel
set_option maxRecDepth 100000 in
theorem chk_59 : mChkMQ 59 = true := by decide +kernel
set_option maxRecDepth 100000 in
theorem chk_60 : mChkMQ 60 = true := by decide +kernel
set_option maxRecDepth 100000 in
theorem chk_61 : mChkMQ 61 = true := by decide +kernel
set_option maxRecDepth 100000 in
theorem chk_62 : mChkMQ 62 = true := by decide +kernel
set_option maxRecDepth 100000 in
theorem chk_63 : mChkMQ 63 = true := by decide +kernel
set_option maxRecDepth 100000 in
theorem chk_64 : mChkMQ 64 = true := by decide +kernel
set_option maxRecDepth 100000 in
theorem chk_65 : mChkMQ 65 = true := by decide +kernel
set_option maxRecDepth 100000 in
theorem chk_66 : mChkMQ 66 = true := by decide +kernel
set_option maxRecDepth 100000 in
theorem chk_67 : mChkMQ 67 = true := by decide +kernel
set_option maxRecDepth 100000 in
theorem chk_68 : mChkMQ 68 = true := by decide +kernel
set_option maxRecDepth 100000 in
theorem chk_69 : mChkMQ 69 = true := by decide +kernel
set_option maxRecDepth 100000 in
theorem chk_70 : mChkMQ 70 = true := by decide +kernel
set_option maxRecDepth 100000 in
theorem chk_71 : mChkMQ 71 = true := by decide +kernel
set_option maxRecDepth 100000 in
theorem chk_72 : mChkMQ 72 = true := by decide +kernel
set_option maxRecDepth 100000 in
theorem chk_73 : mChkMQ 73 = true := by decide +kernel
set_option maxRecDepth 100000 in
theorem chk_74 : mChkMQ 74 = true := by decide +kernel
