section Q05ka
theorem dkL_0 : mcL_0.all (fun e => decide (decode cL_law e.1 = .ok (e.2.1, e.2.2.1))) = true := by decide +kernel
theorem dkL_1 : mcL_1.all (fun e => decide (decode cL_law e.1 = .ok (e.2.1, e.2.2.1))) = true := by decide +kernel
theorem dkL_2 : mcL_2.all (fun e => decide (decode cL_law e.1 = .ok (e.2.1, e.2.2.1))) = true := by decide +kernel
end Q05ka
section Q05kb
theorem dkL_3 : mcL_3.all (fun e => decide (decode cL_law e.1 = .ok (e.2.1, e.2.2.1))) = true := by decide +kernel
theorem dkL_4 : mcL_4.all (fun e => decide (decode cL_law e.1 = .ok (e.2.1, e.2.2.1))) = true := by decide +kernel
theorem dkL_5 : mcL_5.all (fun e => decide (decode cL_law e.1 = .ok (e.2.1, e.2.2.1))) = true := by decide +kernel
end Q05kb
section Q05kc
theorem dkL_6 : mcL_6.all (fun e => decide (decode cL_law e.1 = .ok (e.2.1, e.2.2.1))) = true := by decide +kernel
theorem dkL_7 : mcL_7.all (fun e => decide (decode cL_law e.1 = .ok (e.2.1, e.2.2.1))) = true := by decide +kernel
theorem dkL_8 : mcL_8.all (fun e => decide (decode cL_law e.1 = .ok (e.2.1, e.2.2.1))) = true := by decide +kernel
end Q05kc
section Q05kd
theorem dkL_9 : mcL_9.all (fun e => decide (decode cL_law e.1 = .ok (e.2.1, e.2.2.1))) = true := by decide +kernel
theorem dkL_10 : mcL_10.all (fun e => decide (decode cL_law e.1 = .ok (e.2.1, e.2.2.1))) = true := by decide +kernel
theorem dkL_11 : mcL_11.all (fun e => decide (decode cL_law e.1 = .ok (e.2.1, e.2.2.1))) = true := by decide +kernel
end Q05kd
section Q05ke
theorem dkL_12 : mcL_12.all (fun e => decide (decode cL_law e.1 = .ok (e.2.1, e.2.2.1))) = true := by decide +kernel
end Q05ke
section Q05z
theorem mall_app {p : mI → Bool} {a b : List mI} (ha : a.all p = true) (hb : b.all p = true) : (a ++ b).all p = true := by rw [List.all_append, ha, hb]; rfl
theorem dk_184 : mc_184.all (fun e => decide (decode cL_law e.1 = .ok (e.2.1, e.2.2.1))) = true := mall_app dkL_0 (mall_app dkL_1 (mall_app dkL_2 (mall_app dkL_3 (mall_app dkL_4 (mall_app dkL_5 (mall_app dkL_6 (mall_app dkL_7 (mall_app dkL_8 (mall_app dkL_9 (mall_app dkL_10 (mall_app dkL_11 (dkL_12))))))))))))
end Q05z
