set_option maxRecDepth 100000 in
theorem chk_75 : mChkMQ 75 = true := by decide +kernel
set_option maxRecDepth 100000 in
theorem chk_76 : mChkMQ 76 = true := by decide +kernel
set_option maxRecDepth 100000 in
theorem chk_77 : mChkMQ 77 = true := by decide +kernel
set_option maxRecDepth 100000 in
theorem chk_78 : mChkMQ 78 = true := by decide +kernel
set_option maxRecDepth 100000 in
theorem chk_79 : mChkMQ 79 = true := by decide +kernel
set_option maxRecDepth 100000 in
theorem chk_80 : mChkMQ 80 = true := by decide +kernel
set_option maxRecDepth 100000 in
theorem chk_81 : mChkMQ 81 = true := by decide +kernel
set_option maxRecDepth 100000 in
theorem chk_82 : mChkMQ 82 = true := by decide +kernel
set_option maxRecDepth 100000 in
theorem chk_83 : mChkMQ 83 = true := by decide +kernel
set_option maxRecDepth 100000 in
theorem chk_84 : mChkMQ 84 = true := by decide +kernel
set_option maxRecDepth 100000 in
theorem chk_85 : mChkMQ 85 = true := by decide +kernel
set_option maxRecDepth 100000 in
theorem chk_86 : mChkMQ 86 = true := by decide +kernel
set_option maxRecDepth 100000 in
theorem chk_87 : mChkMQ 87 = true := by decide +kernel
set_option maxRecDepth 100000 in
theorem chk_88 : mChkMQ 88 = true := by decide +kernel
set_option maxRecDepth 100000 in
theorem chk_89 : mChkMQ 89 = true := by decide +kernel
set_option maxRecDepth 100000 in
theorem chk_90 : mChkMQ 90 = true := by decide +kernel
set_option maxRecDepth 100000 in
theorem chk_91 : mChkMQ 91 = true := by decide +kernel
set_option maxRecDepth 100000 in
theorem chk_92 : mChkMQ 92 = true := by decide +kernel
set_option maxRecDepth 100000 in
theorem chk_93 : mChkMQ 93 = true := by decide +kernel
set_option maxRecDepth 100000 in
theorem chk_94 : mChkMQ 94 = true := by decide +kernel
set_option maxRecDepth 100000 in
theorem chk_95 : mChkMQ 95 = true := by decide +kernel
set_option maxRecDepth 100000 in
theorem chk_96 : mChkMQ 96 = true := by decide +kernel
set_option maxRecDepth 100000 in
theorem chk_97 : mChkMQ 97 = true := by decide +kernel
set_option maxRecDepth 100000 in
theorem chk_98 : mChkMQ 98 = true := by decide +kernel
set_option maxRecDepth 100000 in
theorem chk_99 : mChkMQ 99 = true := by decide +kernel
set_option maxRecDepth 100000 in
theorem chk_100 : mChkMQ 100 = true := by decide +kernel
set_option maxRecDepth 100000 in
theorem chk_101 : mChkMQ 101 = true := by decide +kernel
set_option maxRecDepth 100000 in
theorem chk_102 : mChkMQ 102 = true := by decide +kernel
set_option maxRecDepth 100000 in
theorem chk_103 : mChkMQ 103 = true := by decide +kernel
set_option maxRecDepth 100000 in
theorem chk_104 : mChkMQ 104 = true := by decide +kernel
