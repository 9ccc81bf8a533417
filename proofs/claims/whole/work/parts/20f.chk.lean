set_option maxRecDepth 100000 in
theorem chk_155 : mChkMQ 155 = true := by decide +kernel
set_option maxRecDepth 100000 in
theorem chk_156 : mChkMQ 156 = true := by decide +kernel
set_option maxRecDepth 100000 in
theorem chk_157 : mChkMQ 157 = true := by decide +kernel
set_option maxRecDepth 100000 in
theorem chk_158 : mChkMQ 158 = true := by decide +kernel
set_option maxRecDepth 100000 in
theorem chk_159 : mChkMQ 159 = true := by decide +kernel
set_option maxRecDepth 100000 in
theorem chk_160 : mChkMQ 160 = true := by decide +kernel
set_option maxRecDepth 100000 in
theorem chk_161 : mChkMQ 161 = true := by decide +kernel
set_option maxRecDepth 100000 in
theorem chk_162 : mChkMQ 162 = true := by decide +kernel
set_option maxRecDepth 100000 in
theorem chk_163 : mChkMQ 163 = true := by decide +kernel
set_option maxRecDepth 100000 in
theorem chk_164 : mChkMQ 164 = true := by decide +kernel
set_option maxRecDepth 100000 in
theorem chk_165 : mChkMQ 165 = true := by decide +kernel
set_option maxRecDepth 100000 in
theorem chk_166 : mChkMQ 166 = true := by decide +kernel
set_option maxRecDepth 100000 in
theorem chk_167 : mChkMQ 167 = true := by decide +kernel
set_option maxRecDepth 100000 in
theorem chk_168 : mChkMQ 168 = true := by decide +kernel
set_option maxRecDepth 100000 in
theorem chk_169 : mChkMQ 169 = true := by decide +kernel
set_option maxRecDepth 100000 in
theorem chk_170 : mChkMQ 170 = true := by decide +kernel
set_option maxRecDepth 100000 in
theorem chk_171 : mChkMQ 171 = true := by decide +kernel
set_option maxRecDepth 100000 in
theorem chk_172 : mChkMQ 172 = true := by decide +kernel
set_option maxRecDepth 100000 in
theorem chk_173 : mChkMQ 173 = true := by decide +kernel
