theorem dkL_3 : mcL_3.all (fun e => decide (decode cL_law e.1 = .ok (e.2.1, e.2.2.1))) = true := by decide +kernel
theorem dkL_4 : mcL_4.all (fun e => decide (decode cL_law e.1 = .ok (e.2.1, e.2.2.1))) = true := by decide +kernel
theorem dkL_5 : mcL_5.all (fun e => decide (decode cL_law e.1 = .ok (e.2.1, e.2.2.1))) = true := by decide +kernel
