theorem dkL_9 : mcL_9.all (fun e => decide (decode cL_law e.1 = .ok (e.2.1, e.2.2.1))) = true := by decide +kernel
theorem dkL_10 : mcL_10.all (fun e => decide (decode cL_law e.1 = .ok (e.2.1, e.2.2.1))) = true := by decide +kernel
theorem dkL_11 : mcL_11.all (fun e => decide (decode cL_law e.1 = .ok (e.2.1, e.2.2.1))) = true := by decide +kernel
