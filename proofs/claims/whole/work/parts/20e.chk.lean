set_option maxRecDepth 100000 in
theorem chk_135 : mChkMQ 135 = true := by decide +kernel
set_option maxRecDepth 100000 in
theorem chk_136 : mChkMQ 136 = true := by decide +kernel
set_option maxRecDepth 100000 in
theorem chk_137 : mChkMQ 137 = true := by decide +kernel
set_option maxRecDepth 100000 in
theorem chk_138 : mChkMQ 138 = true := by decide +kernel
set_option maxRecDepth 100000 in
theorem chk_139 : mChkMQ 139 = true := by decide +kernel
set_option maxRecDepth 100000 in
theorem chk_140 : mChkMQ 140 = true := by decide +kernel
set_option maxRecDepth 100000 in
theorem chk_141 : mChkMQ 141 = true := by decide +kernel
set_option maxRecDepth 100000 in
theorem chk_142 : mChkMQ 142 = true := by decide +kernel
set_option maxRecDepth 100000 in
theorem chk_143 : mChkMQ 143 = true := by decide +kernel
set_option maxRecDepth 100000 in
theorem chk_144 : mChkMQ 144 = true := by decide +kernel
set_option maxRecDepth 100000 in
theorem chk_145 : mChkMQ 145 = true := by decide +kernel
set_option maxRecDepth 100000 in
theorem chk_146 : mChkMQ 146 = true := by decide +kernel
set_option maxRecDepth 100000 in
theorem chk_147 : mChkMQ 147 = true := by decide +kernel
set_option maxRecDepth 100000 in
theorem chk_148 : mChkMQ 148 = true := by decide +kernel
set_option maxRecDepth 100000 in
theorem chk_149 : mChkMQ 149 = true := by decide +kernel
set_option maxRecDepth 100000 in
theorem chk_150 : mChkMQ 150 = true := by decide +kernel
set_option maxRecDepth 100000 in
theorem chk_151 : mChkMQ 151 = true := by decide +kernel
set_option maxRecDepth 100000 in
theorem chk_152 : mChkMQ 152 = true := by decide +kernel
set_option maxRecDepth 100000 in
theorem chk_153 : mChkMQ 153 = true := by decide +kernel
set_option maxRecDepth 100000 in
theorem chk_154 : mChkMQ 154 = true := by decide +kernel
