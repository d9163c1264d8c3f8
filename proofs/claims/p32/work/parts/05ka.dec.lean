theorem dkL_0 : mcL_0.all (fun e => decide (decode cL_law e.1 = .ok (e.2.1, e.2.2.1))) = true := by decide +kernel
theorem dkL_1 : mcL_1.all (fun e => decide (decode cL_law e.1 = .ok (e.2.1, e.2.2.1))) = true := by decide +kernel
theorem dkL_2 : mcL_2.all (fun e => decide (decode cL_law e.1 = .ok (e.2.1, e.2.2.1))) = true := by decide +kernel
