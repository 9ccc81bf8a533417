set_option maxRecDepth 100000 in
theorem chk_105 : mChkMQ 105 = true := by decide +kernel
set_option maxRecDepth 100000 in
theorem chk_106 : mChkMQ 106 = true := by decide +kernel
set_option maxRecDepth 100000 in
theorem chk_107 : mChkMQ 107 = true := by decide +kernel
set_option maxRecDepth 100000 in
theorem chk_108 : mChkMQ 108 = true := by decide +kernel
set_option maxRecDepth 100000 in
theorem chk_109 : mChkMQ 109 = true := by decide +kernel
set_option maxRecDepth 100000 in
theorem chk_110 : mChkMQ 110 = true := by decide +kernel
set_option maxRecDepth 100000 in
theorem chk_111 : mChkMQ 111 = true := by decide +kernel
set_option maxRecDepth 100000 in
theorem chk_112 : mChkMQ 112 = true := by decide +kernel
set_option maxRecDepth 100000 in
theorem chk_113 : mChkMQ 113 = true := by decide +kernel
set_option maxRecDepth 100000 in
theorem chk_114 : mChkMQ 114 = true := by decide +kernel
set_option maxRecDepth 100000 in
theorem chk_115 : mChkMQ 115 = true := by decide +kernel
set_option maxRecDepth 100000 in
theorem chk_116 : mChkMQ 116 = true := by decide +kernel
set_option maxRecDepth 100000 in
theorem chk_117 : mChkMQ 117 = true := by decide +kernel
set_option maxRecDepth 100000 in
theorem chk_118 : mChkMQ 118 = true := by decide +kernel
set_option maxRecDepth 100000 in
theorem chk_119 : mChkMQ 119 = true := by decide +kernel
set_option maxRecDepth 100000 in
theorem chk_120 : mChkMQ 120 = true := by decide +kernel
set_option maxRecDepth 100000 in
theorem chk_121 : mChkMQ 121 = true := by decide +kernel
set_option maxRecDepth 100000 in
theorem chk_122 : mChkMQ 122 = true := by decide +kernel
set_option maxRecDepth 100000 in
theorem chk_123 : mChkMQ 123 = true := by decide +kernel
set_option maxRecDepth 100000 in
theorem chk_124 : mChkMQ 124 = true := by decide +kernel
set_option maxRecDepth 100000 in
theorem chk_125 : mChkMQ 125 = true := by decide +kernel
set_option maxRecDepth 100000 in
theorem chk_126 : mChkMQ 126 = true := by decide +kernel
set_option maxRecDepth 100000 in
theorem chk_127 : mChkMQ 127 = true := by decide +kernel
set_option maxRecDepth 100000 in
theorem chk_128 : mChkMQ 128 = true := by decide +kernel
set_option maxRecDepth 100000 in
theorem chk_129 : mChkMQ 129 = true := by decide +kernel
set_option maxRecDepth 100000 in
theorem chk_130 : mChkMQ 130 = true := by decide +kernel
set_option maxRecDepth 100000 in
theorem chk_131 : mChkMQ 131 = true := by decide +kernel
set_option maxRecDepth 100000 in
theorem chk_132 : mChkMQ 132 = true := by decide +kernel
set_option maxRecDepth 100000 in
theorem chk_133 : mChkMQ 133 = true := by decide +kernel
set_option maxRecDepth 100000 in
theorem chk_134 : mChkMQ 134 = true := by decide +kernel
