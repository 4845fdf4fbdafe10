/-! the check of all curves, part 1 -/
set_option maxRecDepth 1000000 in
theorem en_0 : qal (qrw 0) qL97 = true := by decide +kernel
set_option maxRecDepth 1000000 in
theorem en_12 : qal (qrw 12) qL97 = true := by decide +kernel
set_option maxRecDepth 1000000 in
theorem en_24 : qal (qrw 24) qL97 = true := by decide +kernel
set_option maxRecDepth 1000000 in
theorem en_36 : qal (qrw 36) qL97 = true := by decide +kernel
set_option maxRecDepth 1000000 in
theorem en_48 : qal (qrw 48) qL97 = true := by decide +kernel
set_option maxRecDepth 1000000 in
theorem en_60 : qal (qrw 60) qL97 = true := by decide +kernel
set_option maxRecDepth 1000000 in
theorem en_72 : qal (qrw 72) qL97 = true := by decide +kernel
set_option maxRecDepth 1000000 in
theorem en_84 : qal (qrw 84) qL97 = true := by decide +kernel
