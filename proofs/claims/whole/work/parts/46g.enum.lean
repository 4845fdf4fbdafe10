/-! the check of all curves, part 5 -/
set_option maxRecDepth 1000000 in
theorem en_8 : qal (qrw 8) qL97 = true := by decide +kernel
set_option maxRecDepth 1000000 in
theorem en_20 : qal (qrw 20) qL97 = true := by decide +kernel
set_option maxRecDepth 1000000 in
theorem en_32 : qal (qrw 32) qL97 = true := by decide +kernel
set_option maxRecDepth 1000000 in
theorem en_44 : qal (qrw 44) qL97 = true := by decide +kernel
set_option maxRecDepth 1000000 in
theorem en_56 : qal (qrw 56) qL97 = true := by decide +kernel
set_option maxRecDepth 1000000 in
theorem en_68 : qal (qrw 68) qL97 = true := by decide +kernel
set_option maxRecDepth 1000000 in
theorem en_80 : qal (qrw 80) qL97 = true := by decide +kernel
