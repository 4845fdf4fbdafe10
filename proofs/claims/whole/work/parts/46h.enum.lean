/-! the check of all curves, part 6 -/
set_option maxRecDepth 1000000 in
theorem en_9 : qal (qrw 9) qL97 = true := by decide +kernel
set_option maxRecDepth 1000000 in
theorem en_21 : qal (qrw 21) qL97 = true := by decide +kernel
set_option maxRecDepth 1000000 in
theorem en_33 : qal (qrw 33) qL97 = true := by decide +kernel
set_option maxRecDepth 1000000 in
theorem en_45 : qal (qrw 45) qL97 = true := by decide +kernel
set_option maxRecDepth 1000000 in
theorem en_57 : qal (qrw 57) qL97 = true := by decide +kernel
set_option maxRecDepth 1000000 in
theorem en_69 : qal (qrw 69) qL97 = true := by decide +kernel
set_option maxRecDepth 1000000 in
theorem en_81 : qal (qrw 81) qL97 = true := by decide +kernel
