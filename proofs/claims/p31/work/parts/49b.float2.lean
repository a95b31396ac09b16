/-! ===== the floats, further on ===== -/
set_option maxRecDepth 100000 in
theorem chk_b : ((List.range 50).all (fun w => (List.range (w + 42)).all (fun d => chk d (w + 41)))) = true := by decide +kernel
set_option maxRecDepth 100000 in
theorem chk_c : ((List.range 30).all (fun w => (List.range (w + 92)).all (fun d => chk d (w + 91)))) = true := by decide +kernel
set_option maxRecDepth 100000 in
theorem chk_d : ((List.range 24).all (fun w => (List.range (w + 122)).all (fun d => chk d (w + 121)))) = true := by decide +kernel
