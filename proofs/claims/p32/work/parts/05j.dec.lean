theorem dk_177 : mc_177.all (fun e => decide (decode cX5_keep e.1 = .ok (e.2.1, e.2.2.1))) = true := by decide +kernel
theorem dk_178 : mc_178.all (fun e => decide (decode cX5_back e.1 = .ok (e.2.1, e.2.2.1))) = true := by decide +kernel
theorem dk_179 : mc_179.all (fun e => decide (decode cX5_sheet e.1 = .ok (e.2.1, e.2.2.1))) = true := by decide +kernel
theorem dk_180 : mc_180.all (fun e => decide (decode cX5_lay e.1 = .ok (e.2.1, e.2.2.1))) = true := by decide +kernel
theorem dk_181 : mc_181.all (fun e => decide (decode cX5_read e.1 = .ok (e.2.1, e.2.2.1))) = true := by decide +kernel
theorem dk_182 : mc_182.all (fun e => decide (decode cX5_torn e.1 = .ok (e.2.1, e.2.2.1))) = true := by decide +kernel
theorem dk_183 : mc_183.all (fun e => decide (decode cX5_count e.1 = .ok (e.2.1, e.2.2.1))) = true := by decide +kernel
