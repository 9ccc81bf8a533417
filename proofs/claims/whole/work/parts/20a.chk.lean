set_option maxRecDepth 100000 in
theorem chk_0 : mChkMQ 0 = true := by decide +kernel
set_option maxRecDepth 100000 in
theorem chk_1 : mChkMQ 1 = true := by decide +kernel
set_option maxRecDepth 100000 in
theorem chk_2 : mChkMQ 2 = true := by decide +kernel
set_option maxRecDepth 100000 in
theorem chk_3 : mChkMQ 3 = true := by decide +kernel
set_option maxRecDepth 100000 in
theorem chk_4 : mChkMQ 4 = true := by decide +kernel
set_option maxRecDepth 100000 in
theorem chk_5 : mChkMQ 5 = true := by decide +kernel
set_option maxRecDepth 100000 in
theorem chk_6 : mChkMQ 6 = true := by decide +kernel
set_option maxRecDepth 100000 in
theorem chk_7 : mChkMQ 7 = true := by decide +kernel
set_option maxRecDepth 100000 in
theorem chk_8 : mChkMQ 8 = true := by decide +kernel
set_option maxRecDepth 100000 in
theorem chk_9 : mChkMQ 9 = true := by decide +kernel
set_option maxRecDepth 100000 in
theorem chk_10 : mChkMQ 10 = true := by decide +kernel
set_option maxRecDepth 100000 in
theorem chk_11 : mChkMQ 11 = true := by decide +kernel
set_option maxRecDepth 100000 in
theorem chk_12 : mChkMQ 12 = true := by decide +kernel
set_option maxRecDepth 100000 in
theorem chk_13 : mChkMQ 13 = true := by decide +kernel
set_option maxRecDepth 100000 in
theorem chk_14 : mChkMQ 14 = true := by decide +kernel
set_option maxRecDepth 100000 in
theorem chk_15 : mChkMQ 15 = true := by decide +kernel
set_option maxRecDepth 100000 in
theorem chk_16 : mChkMQ 16 = true := by decide +kernel
set_option maxRecDepth 100000 in
theorem chk_17 : mChkMQ 17 = true := by decide +kernel
set_option maxRecDepth 100000 in
theorem chk_18 : mChkMQ 18 = true := by decide +kernel
set_option maxRecDepth 100000 in
theorem chk_19 : mChkMQ 19 = true := by decide +kernel
set_option maxRecDepth 100000 in
theorem chk_20 : mChkMQ 20 = true := by decide +kernel
set_option maxRecDepth 100000 in
theorem chk_21 : mChkMQ 21 = true := by decide +kernel
set_option maxRecDepth 100000 in
theorem chk_22 : mChkMQ 22 = true := by decide +kernel
set_option maxRecDepth 100000 in
theorem chk_23 : mChkMQ 23 = true := by decide +kernel
set_option maxRecDepth 100000 in
theorem chk_24 : mChkMQ 24 = true := by decide +kernel
set_option maxRecDepth 100000 in
theorem chk_25 : mChkMQ 25 = true := by decide +kernel
set_option maxRecDepth 100000 in
theorem chk_26 : mChkMQ 26 = true := by decide +kernel
set_option maxRecDepth 100000 in
theorem chk_27 : mChkMQ 27 = true := by decide +kernel
set_option maxRecDepth 100000 in
theorem chk_28 : mChkMQ 28 = true := by decide +kernel
set_option maxRecDepth 100000 in
theorem chk_29 : mChkMQ 29 = true := by decide +kernel
set_option maxRecDepth 100000 in
theorem chk_30 : mChkMQ 30 = true := by decide +kernel
set_option maxRecDepth 100000 in
theorem chk_31 : mChkMQ 31 = true := by decide +kernel
set_option maxRecDepth 100000 in
theorem chk_32 : mChkMQ 32 = true := by decide +kernel
set_option maxRecDepth 100000 in
theorem chk_33 : mChkMQ 33 = true := by decide +kernel
set_option maxRecDepth 100000 in
theorem chk_34 : mChkMQ 34 = true := by decide +kernel
set_option maxRecDepth 100000 in
theorem chk_35 : mChkMQ 35 = true := by decide +kernel
set_option maxRecDepth 100000 in
theorem chk_36 : mChkMQ 36 = true := by decide +kernel
set_option maxRecDepth 100000 in
theorem chk_37 : mChkMQ 37 = true := by decide +kernel
set_option maxRecDepth 100000 in
theorem chk_38 : mChkMQ 38 = true := by decide +kernel
set_option maxRecDepth 100000 in
theorem chk_39 : mChkMQ 39 = true := by decide +kernel
