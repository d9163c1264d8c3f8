theorem dkL_12 : mcL_12.all (fun e => decide (decode cL_law e.1 = .ok (e.2.1, e.2.2.1))) = true := by decide +kernel
