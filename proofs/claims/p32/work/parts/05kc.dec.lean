theorem dkL_6 : mcL_6.all (fun e => decide (decode cL_law e.1 = .ok (e.2.1, e.2.2.1))) = true := by decide +kernel
theorem dkL_7 : mcL_7.all (fun e => decide (decode cL_law e.1 = .ok (e.2.1, e.2.2.1))) = true := by decide +kernel
theorem dkL_8 : mcL_8.all (fun e => decide (decode cL_law e.1 = .ok (e.2.1, e.2.2.1))) = true := by decide +kernel
