set_option maxRecDepth 100000 in
theorem chk_174 : mChkMQ 174 = true := by decide +kernel
set_option maxRecDepth 100000 in
theorem chk_175 : mChkMQ 175 = true := by decide +kernel
set_option maxRecDepth 100000 in
theorem chk_176 : mChkMQ 176 = true := by decide +kernel
set_option maxRecDepth 100000 in
theorem chk_177 : mChkMQ 177 = true := by decide +kernel
set_option maxRecDepth 100000 in
theorem chk_178 : mChkMQ 178 = true := by decide +kernel
set_option maxRecDepth 100000 in
theorem chk_179 : mChkMQ 179 = true := by decide +kernel
set_option maxRecDepth 100000 in
theorem chk_180 : mChkMQ 180 = true := by decide +kernel
set_option maxRecDepth 100000 in
theorem chk_181 : mChkMQ 181 = true := by decide +kernel
set_option maxRecDepth 100000 in
theorem chk_182 : mChkMQ 182 = true := by decide +kernel
set_option maxRecDepth 100000 in
theorem chk_183 : mChkMQ 183 = true := by decide +kernel
set_option maxRecDepth 100000 in
theorem chk_184 : mChkMQ 184 = true := by decide +kernel
set_option maxRecDepth 100000 in
theorem chk_185 : mChkMQ 185 = true := by decide +kernel
set_option maxRecDepth 100000 in
theorem chk_186 : mChkMQ 186 = true := by decide +kernel
set_option maxRecDepth 100000 in
theorem chk_187 : mChkMQ 187 = true := by decide +kernel
set_option maxRecDepth 100000 in
theorem chk_188 : mChkMQ 188 = true := by decide +kernel
set_option maxRecDepth 100000 in
theorem chk_189 : mChkMQ 189 = true := by decide +kernel
set_option maxRecDepth 100000 in
theorem chk_190 : mChkMQ 190 = true := by decide +kernel
set_option maxRecDepth 100000 in
theorem chk_191 : mChkMQ 191 = true := by decide +kernel
set_option maxRecDepth 100000 in
theorem chk_192 : mChkMQ 192 = true := by decide +kernel
set_option maxRecDepth 100000 in
theorem chk_193 : mChkMQ 193 = true := by decide +kernel
set_option maxRecDepth 100000 in
theorem chk_194 : mChkMQ 194 = true := by decide +kernel
set_option maxRecDepth 100000 in
theorem chk_195 : mChkMQ 195 = true := by decide +kernel
set_option maxRecDepth 100000 in
theorem chk_196 : mChkMQ 196 = true := by decide +kernel
set_option maxRecDepth 100000 in
theorem chk_197 : mChkMQ 197 = true := by decide +kernel
set_option maxRecDepth 100000 in
theorem chk_198 : mChkMQ 198 = true := by decide +kernel
set_option maxRecDepth 100000 in
theorem chk_199 : mChkMQ 199 = true := by decide +kernel
set_option maxRecDepth 100000 in
theorem chk_200 : mChkMQ 200 = true := by decide +kernel
set_option maxRecDepth 100000 in
theorem chk_201 : mChkMQ 201 = true := by decide +kernel
set_option maxRecDepth 100000 in
theorem chk_202 : mChkMQ 202 = true := by decide +kernel
set_option maxRecDepth 100000 in
theorem chk_203 : mChkMQ 203 = true := by decide +kernel
set_option maxRecDepth 100000 in
theorem chk_204 : mChkMQ 204 = true := by decide +kernel
set_option maxRecDepth 100000 in
theorem chk_205 : mChkMQ 205 = true := by decide +kernel
set_option maxRecDepth 100000 in
theorem chk_206 : mChkMQ 206 = true := by decide +kernel
