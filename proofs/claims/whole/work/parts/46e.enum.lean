/-! the check of all curves, part 3 -/
set_option maxRecDepth 1000000 in
theorem en_4 : qal (qrw 4) qL97 = true := by decide +kernel
set_option maxRecDepth 1000000 in
theorem en_16 : qal (qrw 16) qL97 = true := by decide +kernel
set_option maxRecDepth 1000000 in
theorem en_28 : qal (qrw 28) qL97 = true := by decide +kernel
set_option maxRecDepth 1000000 in
theorem en_40 : qal (qrw 40) qL97 = true := by decide +kernel
set_option maxRecDepth 1000000 in
theorem en_52 : qal (qrw 52) qL97 = true := by decide +kernel
set_option maxRecDepth 1000000 in
theorem en_64 : qal (qrw 64) qL97 = true := by decide +kernel
set_option maxRecDepth 1000000 in
theorem en_76 : qal (qrw 76) qL97 = true := by decide +kernel
