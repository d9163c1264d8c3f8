/-! the run -/
section ANY
variable {R : sg → sg → Prop} {sc : List Int32} {s t : sg} {HS : mH} {nc ns i : Nat}
theorem law_any (hL31 : sc.length < 2 ^ 31) (hi : i + 6 ≤ sc.length) (hLR : LR (hp shC s) (hp shM t) HS) (hOK : stepsOK R) (hR : R s t) (fin : ∀ (s' t' : sg) (HS' : mH), R s' t' → LR (hp shC s') (hp shM t') HS' → mFin sc 31 nc ns (1441, lawL i, [], HS', nc, ns)) (j : Nat) (hj : j < 39) : mFin sc 31 nc ns (33, lawL i, [.int (nI j)], HS, nc, ns) := by
  obtain ⟨k0, k1, k2, k3, k4, k5, k6, k7, k8, k9, k10, k11, k12, k13, k14, k15, k16, k17, k18, k19, k20, k21, k22, k23, k24, k25, k26, k27, k28, k29, k30, k31, k32, k33, k34, k35, k36, k37, k38⟩ := hOK s t hR (sc.getD (i + 1) 0) (sc.getD (i + 2) 0) (sc.getD (i + 3) 0) (sc.getD (i + 4) 0) (sc.getD (i + 5) 0)
  clear hOK hR
  obtain rfl | hj := Nat.lt_succ_iff_lt_or_eq.mp hj |>.symm
  · exact law_do_38 hL31 hi hLR k38 fin
  obtain rfl | hj := Nat.lt_succ_iff_lt_or_eq.mp hj |>.symm
  · exact law_do_37 hL31 hi hLR k37 fin
  obtain rfl | hj := Nat.lt_succ_iff_lt_or_eq.mp hj |>.symm
  · exact law_do_36 hL31 hi hLR k36 fin
  obtain rfl | hj := Nat.lt_succ_iff_lt_or_eq.mp hj |>.symm
  · exact law_do_35 hL31 hi hLR k35 fin
  obtain rfl | hj := Nat.lt_succ_iff_lt_or_eq.mp hj |>.symm
  · exact law_do_34 hL31 hi hLR k34 fin
  obtain rfl | hj := Nat.lt_succ_iff_lt_or_eq.mp hj |>.symm
  · exact law_do_33 hL31 hi hLR k33 fin
  obtain rfl | hj := Nat.lt_succ_iff_lt_or_eq.mp hj |>.symm
  · exact law_do_32 hL31 hi hLR k32 fin
  obtain rfl | hj := Nat.lt_succ_iff_lt_or_eq.mp hj |>.symm
  · exact law_do_31 hL31 hi hLR k31 fin
  obtain rfl | hj := Nat.lt_succ_iff_lt_or_eq.mp hj |>.symm
  · exact law_do_30 hL31 hi hLR k30 fin
  obtain rfl | hj := Nat.lt_succ_iff_lt_or_eq.mp hj |>.symm
  · exact law_do_29 hL31 hi hLR k29 fin
  obtain rfl | hj := Nat.lt_succ_iff_lt_or_eq.mp hj |>.symm
  · exact law_do_28 hL31 hi hLR k28 fin
  obtain rfl | hj := Nat.lt_succ_iff_lt_or_eq.mp hj |>.symm
  · exact law_do_27 hL31 hi hLR k27 fin
  obtain rfl | hj := Nat.lt_succ_iff_lt_or_eq.mp hj |>.symm
  · exact law_do_26 hL31 hi hLR k26 fin
  obtain rfl | hj := Nat.lt_succ_iff_lt_or_eq.mp hj |>.symm
  · exact law_do_25 hL31 hi hLR k25 fin
  obtain rfl | hj := Nat.lt_succ_iff_lt_or_eq.mp hj |>.symm
  · exact law_do_24 hL31 hi hLR k24 fin
  obtain rfl | hj := Nat.lt_succ_iff_lt_or_eq.mp hj |>.symm
  · exact law_do_23 hL31 hi hLR k23 fin
  obtain rfl | hj := Nat.lt_succ_iff_lt_or_eq.mp hj |>.symm
  · exact law_do_22 hL31 hi hLR k22 fin
  obtain rfl | hj := Nat.lt_succ_iff_lt_or_eq.mp hj |>.symm
  · exact law_do_21 hL31 hi hLR k21 fin
  obtain rfl | hj := Nat.lt_succ_iff_lt_or_eq.mp hj |>.symm
  · exact law_do_20 hL31 hi hLR k20 fin
  obtain rfl | hj := Nat.lt_succ_iff_lt_or_eq.mp hj |>.symm
  · exact law_do_19 hL31 hi hLR k19 fin
  obtain rfl | hj := Nat.lt_succ_iff_lt_or_eq.mp hj |>.symm
  · exact law_do_18 hL31 hi hLR k18 fin
  obtain rfl | hj := Nat.lt_succ_iff_lt_or_eq.mp hj |>.symm
  · exact law_do_17 hL31 hi hLR k17 fin
  obtain rfl | hj := Nat.lt_succ_iff_lt_or_eq.mp hj |>.symm
  · exact law_do_16 hL31 hi hLR k16 fin
  obtain rfl | hj := Nat.lt_succ_iff_lt_or_eq.mp hj |>.symm
  · exact law_do_15 hL31 hi hLR k15 fin
  obtain rfl | hj := Nat.lt_succ_iff_lt_or_eq.mp hj |>.symm
  · exact law_do_14 hL31 hi hLR k14 fin
  obtain rfl | hj := Nat.lt_succ_iff_lt_or_eq.mp hj |>.symm
  · exact law_do_13 hL31 hi hLR k13 fin
  obtain rfl | hj := Nat.lt_succ_iff_lt_or_eq.mp hj |>.symm
  · exact law_do_12 hL31 hi hLR k12 fin
  obtain rfl | hj := Nat.lt_succ_iff_lt_or_eq.mp hj |>.symm
  · exact law_do_11 hL31 hi hLR k11 fin
  obtain rfl | hj := Nat.lt_succ_iff_lt_or_eq.mp hj |>.symm
  · exact law_do_10 hL31 hi hLR k10 fin
  obtain rfl | hj := Nat.lt_succ_iff_lt_or_eq.mp hj |>.symm
  · exact law_do_9 hL31 hi hLR k9 fin
  obtain rfl | hj := Nat.lt_succ_iff_lt_or_eq.mp hj |>.symm
  · exact law_do_8 hL31 hi hLR k8 fin
  obtain rfl | hj := Nat.lt_succ_iff_lt_or_eq.mp hj |>.symm
  · exact law_do_7 hL31 hi hLR k7 fin
  obtain rfl | hj := Nat.lt_succ_iff_lt_or_eq.mp hj |>.symm
  · exact law_do_6 hL31 hi hLR k6 fin
  obtain rfl | hj := Nat.lt_succ_iff_lt_or_eq.mp hj |>.symm
  · exact law_do_5 hL31 hi hLR k5 fin
  obtain rfl | hj := Nat.lt_succ_iff_lt_or_eq.mp hj |>.symm
  · exact law_do_4 hL31 hi hLR k4 fin
  obtain rfl | hj := Nat.lt_succ_iff_lt_or_eq.mp hj |>.symm
  · exact law_do_3 hL31 hi hLR k3 fin
  obtain rfl | hj := Nat.lt_succ_iff_lt_or_eq.mp hj |>.symm
  · exact law_do_2 hL31 hi hLR k2 fin
  obtain rfl | hj := Nat.lt_succ_iff_lt_or_eq.mp hj |>.symm
  · exact law_do_1 hL31 hi hLR k1 fin
  obtain rfl | hj := Nat.lt_succ_iff_lt_or_eq.mp hj |>.symm
  · exact law_do_0 hL31 hi hLR k0 fin
  exact absurd hj (Nat.not_lt_zero j)
end ANY
theorem law_loop {R : sg → sg → Prop} (hOK : stepsOK R) {sc : List Int32} (hL30 : sc.length < 2 ^ 30) {nc ns : Nat} (n : Nat) : ∀ (i : Nat) (s t : sg) (HS : mH), sc.length < i + 6 * n → i < 2 ^ 30 → R s t → LR (hp shC s) (hp shM t) HS → mFin sc 31 nc ns (18, lawL i, [], HS, nc, ns) := by
  induction n with
  | zero => exact fun i s t HS hn hi2 hR hLR => law_out hL30 hi2 (by omega)
  | succ n ih =>
    intro i s t HS hn hi2 hR hLR
    by_cases hi : i + 6 ≤ sc.length
    · have hL31 : sc.length < 2 ^ 31 := by omega
      have fin : ∀ (s' t' : sg) (HS' : mH), R s' t' → LR (hp shC s') (hp shM t') HS' → mFin sc 31 nc ns (1441, lawL i, [], HS', nc, ns) := fun s' t' HS' h1 h2 => law_inc (ih (i + 6) s' t' HS' (by omega) (by omega) h1 h2)
      obtain ⟨j, hj, e⟩ := pk_andE (sc.getD i 0) (m := 63) 6 (by decide)
      refine law_in hL30 hi (law_which hL30 (by omega) e ?_)
      by_cases h39 : 39 ≤ j
      · exact law_skip hj h39 (fin s t HS hR hLR)
      · exact law_any hL31 hi hLR hOK hR fin j (by omega)
    · exact law_out hL30 hi2 (by omega)
