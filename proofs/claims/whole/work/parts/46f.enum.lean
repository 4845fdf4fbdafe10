/-! the check of all curves, part 4 -/
set_option maxRecDepth 1000000 in
theorem en_5 : qal (qrw 5) qL97 = true := by decide +kernel
set_option maxRecDepth 1000000 in
theorem en_17 : qal (qrw 17) qL97 = true := by decide +kernel
set_option maxRecDepth 1000000 in
theorem en_29 : qal (qrw 29) qL97 = true := by decide +kernel
set_option maxRecDepth 1000000 in
theorem en_41 : qal (qrw 41) qL97 = true := by decide +kernel
set_option maxRecDepth 1000000 in
theorem en_53 : qal (qrw 53) qL97 = true := by decide +kernel
set_option maxRecDepth 1000000 in
theorem en_65 : qal (qrw 65) qL97 = true := by decide +kernel
set_option maxRecDepth 1000000 in
theorem en_77 : qal (qrw 77) qL97 = true := by decide +kernel
