/-! the check of all curves, part 2 -/
set_option maxRecDepth 1000000 in
theorem en_1 : qal (qrw 1) qL97 = true := by decide +kernel
set_option maxRecDepth 1000000 in
theorem en_13 : qal (qrw 13) qL97 = true := by decide +kernel
set_option maxRecDepth 1000000 in
theorem en_25 : qal (qrw 25) qL97 = true := by decide +kernel
set_option maxRecDepth 1000000 in
theorem en_37 : qal (qrw 37) qL97 = true := by decide +kernel
set_option maxRecDepth 1000000 in
theorem en_49 : qal (qrw 49) qL97 = true := by decide +kernel
set_option maxRecDepth 1000000 in
theorem en_61 : qal (qrw 61) qL97 = true := by decide +kernel
set_option maxRecDepth 1000000 in
theorem en_73 : qal (qrw 73) qL97 = true := by decide +kernel
