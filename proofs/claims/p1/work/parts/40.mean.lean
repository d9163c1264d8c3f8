/-! mean on new objects -/
def hh (m i : Nat) : Int32 := bif Nat.ble i m then nI i else 0
def hT (m : Nat) : mH := ((((((((hC0.set 52 (.inr (1, [.int 0, .int 0, .int (hh m 1), .int 0, .int 0, .ref 53, .ref 54, .ref 55, .ref 56, .ref 57, .ref 58, .ref 59]))).set 60 (.inr (1, [.int 0, .int 0, .int (hh m 2), .int 0, .int 0, .ref 61, .ref 62, .ref 63, .ref 64, .ref 65, .ref 66, .ref 67]))).set 68 (.inr (1, [.int 0, .int 0, .int (hh m 3), .int 0, .int 0, .ref 69, .ref 70, .ref 71, .ref 72, .ref 73, .ref 74, .ref 75]))).set 76 (.inr (1, [.int 0, .int 0, .int (hh m 4), .int 0, .int 0, .ref 77, .ref 78, .ref 79, .ref 80, .ref 81, .ref 82, .ref 83]))).set 84 (.inr (1, [.int 0, .int 0, .int (hh m 5), .int 0, .int 0, .ref 85, .ref 86, .ref 87, .ref 88, .ref 89, .ref 90, .ref 91]))).set 92 (.inr (1, [.int 0, .int 0, .int (hh m 6), .int 0, .int 0, .ref 93, .ref 94, .ref 95, .ref 96, .ref 97, .ref 98, .ref 99]))).set 100 (.inr (1, [.int 0, .int 0, .int (hh m 7), .int 0, .int 0, .ref 101, .ref 102, .ref 103, .ref 104, .ref 105, .ref 106, .ref 107]))).set 108 (.inr (1, [.int 0, .int 0, .int (hh m 8), .int 0, .int 0, .ref 109, .ref 110, .ref 111, .ref 112, .ref 113, .ref 114, .ref 115])))
theorem hT_0 : hT 0 = hC0 := eqH_ok (by decide +kernel)
def mx (d m : Nat) : Nat := bif Nat.ble m d then d + 1 else m
theorem mx_ge {d m : Nat} : d + 1 ≤ mx d m := by
  unfold mx
  cases h : Nat.ble m d with
  | true => exact Nat.le_refl _
  | false =>
    show d + 1 ≤ m
    have : ¬ m ≤ d := fun w => by rw [Nat.ble_eq_true_of_le w] at h; cases h
    omega
theorem mx_le {d m : Nat} (h1 : d < 8) (h2 : m ≤ 8) : mx d m ≤ 8 := by
  unfold mx
  cases h : Nat.ble m d with
  | true => exact h1
  | false => exact h2
theorem lz (x : Int64) : (0 : Int64) + x * 0 = 0 := by rw [Int64.mul_zero, Int64.add_zero]
theorem all9 {p : Nat → Bool} {d : Nat} (h : (List.range 9).all (fun m => Nat.blt m d || p m) = true) {m : Nat} (h1 : d ≤ m) (h2 : m ≤ 8) : p m = true := by
  have e := List.all_eq_true.mp h m (List.mem_range.mpr (by omega))
  have f : Nat.blt m d = false := by
    cases q : Nat.blt m d with
    | false => rfl
    | true => exact absurd (Nat.le_of_ble_eq_true q) (by omega)
  rw [f] at e
  exact e
theorem oc0_all : (List.range 9).all (fun m => Nat.blt m 0 || eqR (mrun [] 60 10 85 (mentry 85 [.ref 1, .ref 44, .int (-4), .int 0] (hT m))) (some (.int 0)) (hT m) 0 0) = true := by decide +kernel
theorem oc0 {m : Nat} (h1 : 0 ≤ m) (h2 : m ≤ 8) : mEnds [] 10 85 (mentry 85 [.ref 1, .ref 44, .int (-4), .int 0] (hT m)) (some (.int 0), hT m, 0, 0) := ⟨60, eqR_ok (all9 oc0_all h1 h2)⟩
def hU0 (m : Nat) : mH := (hT m).set 52 (.inr (1, [.int 0, .int 0, .int (nI 0), .int 0, .int 0, .ref 53, .ref 54, .ref 55, .ref 56, .ref 57, .ref 58, .ref 59]))
theorem cpA0_all : (List.range 9).all (fun m => Nat.blt m 0 || eqR (mrun [] 200 10 7 (mentry 7 [.ref 52, .ref 44] (hT m))) (none) (hU0 m) 0 0) = true := by decide +kernel
theorem cpA0 {m : Nat} (h1 : 0 ≤ m) (h2 : m ≤ 8) : mEnds [] 10 7 (mentry 7 [.ref 52, .ref 44] (hT m)) (none, hU0 m, 0, 0) := ⟨200, eqR_ok (all9 cpA0_all h1 h2)⟩
theorem skA0_all : (List.range 9).all (fun m => Nat.blt m 0 || eqR (mrun [] 40 10 14 (mentry 14 [.ref 52] (hU0 m))) (some (.int 10)) (hU0 m) 0 0) = true := by decide +kernel
theorem skA0 {m : Nat} (h1 : 0 ≤ m) (h2 : m ≤ 8) : mEnds [] 10 14 (mentry 14 [.ref 52] (hU0 m)) (some (.int 10), hU0 m, 0, 0) := ⟨40, eqR_ok (all9 skA0_all h1 h2)⟩
theorem paA0_0_all : (List.range 9).all (fun m => Nat.blt m 0 || eqR (mrun [] 100 10 24 (mentry 24 [.ref 52, .int 10, .int 0] (hU0 m))) (none) (hT (mx 0 m)) 0 0) = true := by decide +kernel
theorem paA0_0 {m : Nat} (h1 : 0 ≤ m) (h2 : m ≤ 8) : mEnds [] 10 24 (mentry 24 [.ref 52, .int 10, .int 0] (hU0 m)) (none, hT (mx 0 m), 0, 0) := ⟨100, eqR_ok (all9 paA0_0_all h1 h2)⟩
theorem paA0_1_all : (List.range 9).all (fun m => Nat.blt m 0 || eqR (mrun [] 100 10 24 (mentry 24 [.ref 52, .int 10, .int 1] (hU0 m))) (none) (hT (mx 0 m)) 0 0) = true := by decide +kernel
theorem paA0_1 {m : Nat} (h1 : 0 ≤ m) (h2 : m ≤ 8) : mEnds [] 10 24 (mentry 24 [.ref 52, .int 10, .int 1] (hU0 m)) (none, hT (mx 0 m), 0, 0) := ⟨100, eqR_ok (all9 paA0_1_all h1 h2)⟩
theorem oc1_all : (List.range 9).all (fun m => Nat.blt m 1 || eqR (mrun [] 60 10 85 (mentry 85 [.ref 1, .ref 52, .int (-4), .int 0] (hT m))) (some (.int 0)) (hT m) 0 0) = true := by decide +kernel
theorem oc1 {m : Nat} (h1 : 1 ≤ m) (h2 : m ≤ 8) : mEnds [] 10 85 (mentry 85 [.ref 1, .ref 52, .int (-4), .int 0] (hT m)) (some (.int 0), hT m, 0, 0) := ⟨60, eqR_ok (all9 oc1_all h1 h2)⟩
def hU1 (m : Nat) : mH := (hT m).set 60 (.inr (1, [.int 0, .int 0, .int (nI 1), .int 0, .int 0, .ref 61, .ref 62, .ref 63, .ref 64, .ref 65, .ref 66, .ref 67]))
theorem cpA1_all : (List.range 9).all (fun m => Nat.blt m 1 || eqR (mrun [] 200 10 7 (mentry 7 [.ref 60, .ref 52] (hT m))) (none) (hU1 m) 0 0) = true := by decide +kernel
theorem cpA1 {m : Nat} (h1 : 1 ≤ m) (h2 : m ≤ 8) : mEnds [] 10 7 (mentry 7 [.ref 60, .ref 52] (hT m)) (none, hU1 m, 0, 0) := ⟨200, eqR_ok (all9 cpA1_all h1 h2)⟩
theorem skA1_all : (List.range 9).all (fun m => Nat.blt m 1 || eqR (mrun [] 40 10 14 (mentry 14 [.ref 60] (hU1 m))) (some (.int 10)) (hU1 m) 0 0) = true := by decide +kernel
theorem skA1 {m : Nat} (h1 : 1 ≤ m) (h2 : m ≤ 8) : mEnds [] 10 14 (mentry 14 [.ref 60] (hU1 m)) (some (.int 10), hU1 m, 0, 0) := ⟨40, eqR_ok (all9 skA1_all h1 h2)⟩
theorem paA1_0_all : (List.range 9).all (fun m => Nat.blt m 1 || eqR (mrun [] 100 10 24 (mentry 24 [.ref 60, .int 10, .int 0] (hU1 m))) (none) (hT (mx 1 m)) 0 0) = true := by decide +kernel
theorem paA1_0 {m : Nat} (h1 : 1 ≤ m) (h2 : m ≤ 8) : mEnds [] 10 24 (mentry 24 [.ref 60, .int 10, .int 0] (hU1 m)) (none, hT (mx 1 m), 0, 0) := ⟨100, eqR_ok (all9 paA1_0_all h1 h2)⟩
theorem paA1_1_all : (List.range 9).all (fun m => Nat.blt m 1 || eqR (mrun [] 100 10 24 (mentry 24 [.ref 60, .int 10, .int 1] (hU1 m))) (none) (hT (mx 1 m)) 0 0) = true := by decide +kernel
theorem paA1_1 {m : Nat} (h1 : 1 ≤ m) (h2 : m ≤ 8) : mEnds [] 10 24 (mentry 24 [.ref 60, .int 10, .int 1] (hU1 m)) (none, hT (mx 1 m), 0, 0) := ⟨100, eqR_ok (all9 paA1_1_all h1 h2)⟩
theorem oc2_all : (List.range 9).all (fun m => Nat.blt m 2 || eqR (mrun [] 60 10 85 (mentry 85 [.ref 1, .ref 60, .int (-4), .int 0] (hT m))) (some (.int 0)) (hT m) 0 0) = true := by decide +kernel
theorem oc2 {m : Nat} (h1 : 2 ≤ m) (h2 : m ≤ 8) : mEnds [] 10 85 (mentry 85 [.ref 1, .ref 60, .int (-4), .int 0] (hT m)) (some (.int 0), hT m, 0, 0) := ⟨60, eqR_ok (all9 oc2_all h1 h2)⟩
def hU2 (m : Nat) : mH := (hT m).set 68 (.inr (1, [.int 0, .int 0, .int (nI 2), .int 0, .int 0, .ref 69, .ref 70, .ref 71, .ref 72, .ref 73, .ref 74, .ref 75]))
theorem cpA2_all : (List.range 9).all (fun m => Nat.blt m 2 || eqR (mrun [] 200 10 7 (mentry 7 [.ref 68, .ref 60] (hT m))) (none) (hU2 m) 0 0) = true := by decide +kernel
theorem cpA2 {m : Nat} (h1 : 2 ≤ m) (h2 : m ≤ 8) : mEnds [] 10 7 (mentry 7 [.ref 68, .ref 60] (hT m)) (none, hU2 m, 0, 0) := ⟨200, eqR_ok (all9 cpA2_all h1 h2)⟩
theorem skA2_all : (List.range 9).all (fun m => Nat.blt m 2 || eqR (mrun [] 40 10 14 (mentry 14 [.ref 68] (hU2 m))) (some (.int 10)) (hU2 m) 0 0) = true := by decide +kernel
theorem skA2 {m : Nat} (h1 : 2 ≤ m) (h2 : m ≤ 8) : mEnds [] 10 14 (mentry 14 [.ref 68] (hU2 m)) (some (.int 10), hU2 m, 0, 0) := ⟨40, eqR_ok (all9 skA2_all h1 h2)⟩
theorem paA2_0_all : (List.range 9).all (fun m => Nat.blt m 2 || eqR (mrun [] 100 10 24 (mentry 24 [.ref 68, .int 10, .int 0] (hU2 m))) (none) (hT (mx 2 m)) 0 0) = true := by decide +kernel
theorem paA2_0 {m : Nat} (h1 : 2 ≤ m) (h2 : m ≤ 8) : mEnds [] 10 24 (mentry 24 [.ref 68, .int 10, .int 0] (hU2 m)) (none, hT (mx 2 m), 0, 0) := ⟨100, eqR_ok (all9 paA2_0_all h1 h2)⟩
theorem paA2_1_all : (List.range 9).all (fun m => Nat.blt m 2 || eqR (mrun [] 100 10 24 (mentry 24 [.ref 68, .int 10, .int 1] (hU2 m))) (none) (hT (mx 2 m)) 0 0) = true := by decide +kernel
theorem paA2_1 {m : Nat} (h1 : 2 ≤ m) (h2 : m ≤ 8) : mEnds [] 10 24 (mentry 24 [.ref 68, .int 10, .int 1] (hU2 m)) (none, hT (mx 2 m), 0, 0) := ⟨100, eqR_ok (all9 paA2_1_all h1 h2)⟩
theorem oc3_all : (List.range 9).all (fun m => Nat.blt m 3 || eqR (mrun [] 60 10 85 (mentry 85 [.ref 1, .ref 68, .int (-4), .int 0] (hT m))) (some (.int 0)) (hT m) 0 0) = true := by decide +kernel
theorem oc3 {m : Nat} (h1 : 3 ≤ m) (h2 : m ≤ 8) : mEnds [] 10 85 (mentry 85 [.ref 1, .ref 68, .int (-4), .int 0] (hT m)) (some (.int 0), hT m, 0, 0) := ⟨60, eqR_ok (all9 oc3_all h1 h2)⟩
def hU3 (m : Nat) : mH := (hT m).set 76 (.inr (1, [.int 0, .int 0, .int (nI 3), .int 0, .int 0, .ref 77, .ref 78, .ref 79, .ref 80, .ref 81, .ref 82, .ref 83]))
theorem cpA3_all : (List.range 9).all (fun m => Nat.blt m 3 || eqR (mrun [] 200 10 7 (mentry 7 [.ref 76, .ref 68] (hT m))) (none) (hU3 m) 0 0) = true := by decide +kernel
theorem cpA3 {m : Nat} (h1 : 3 ≤ m) (h2 : m ≤ 8) : mEnds [] 10 7 (mentry 7 [.ref 76, .ref 68] (hT m)) (none, hU3 m, 0, 0) := ⟨200, eqR_ok (all9 cpA3_all h1 h2)⟩
theorem skA3_all : (List.range 9).all (fun m => Nat.blt m 3 || eqR (mrun [] 40 10 14 (mentry 14 [.ref 76] (hU3 m))) (some (.int 10)) (hU3 m) 0 0) = true := by decide +kernel
theorem skA3 {m : Nat} (h1 : 3 ≤ m) (h2 : m ≤ 8) : mEnds [] 10 14 (mentry 14 [.ref 76] (hU3 m)) (some (.int 10), hU3 m, 0, 0) := ⟨40, eqR_ok (all9 skA3_all h1 h2)⟩
theorem paA3_0_all : (List.range 9).all (fun m => Nat.blt m 3 || eqR (mrun [] 100 10 24 (mentry 24 [.ref 76, .int 10, .int 0] (hU3 m))) (none) (hT (mx 3 m)) 0 0) = true := by decide +kernel
theorem paA3_0 {m : Nat} (h1 : 3 ≤ m) (h2 : m ≤ 8) : mEnds [] 10 24 (mentry 24 [.ref 76, .int 10, .int 0] (hU3 m)) (none, hT (mx 3 m), 0, 0) := ⟨100, eqR_ok (all9 paA3_0_all h1 h2)⟩
theorem paA3_1_all : (List.range 9).all (fun m => Nat.blt m 3 || eqR (mrun [] 100 10 24 (mentry 24 [.ref 76, .int 10, .int 1] (hU3 m))) (none) (hT (mx 3 m)) 0 0) = true := by decide +kernel
theorem paA3_1 {m : Nat} (h1 : 3 ≤ m) (h2 : m ≤ 8) : mEnds [] 10 24 (mentry 24 [.ref 76, .int 10, .int 1] (hU3 m)) (none, hT (mx 3 m), 0, 0) := ⟨100, eqR_ok (all9 paA3_1_all h1 h2)⟩
theorem oc4_all : (List.range 9).all (fun m => Nat.blt m 4 || eqR (mrun [] 60 10 85 (mentry 85 [.ref 1, .ref 76, .int (-4), .int 0] (hT m))) (some (.int 0)) (hT m) 0 0) = true := by decide +kernel
theorem oc4 {m : Nat} (h1 : 4 ≤ m) (h2 : m ≤ 8) : mEnds [] 10 85 (mentry 85 [.ref 1, .ref 76, .int (-4), .int 0] (hT m)) (some (.int 0), hT m, 0, 0) := ⟨60, eqR_ok (all9 oc4_all h1 h2)⟩
def hU4 (m : Nat) : mH := (hT m).set 84 (.inr (1, [.int 0, .int 0, .int (nI 4), .int 0, .int 0, .ref 85, .ref 86, .ref 87, .ref 88, .ref 89, .ref 90, .ref 91]))
theorem cpA4_all : (List.range 9).all (fun m => Nat.blt m 4 || eqR (mrun [] 200 10 7 (mentry 7 [.ref 84, .ref 76] (hT m))) (none) (hU4 m) 0 0) = true := by decide +kernel
theorem cpA4 {m : Nat} (h1 : 4 ≤ m) (h2 : m ≤ 8) : mEnds [] 10 7 (mentry 7 [.ref 84, .ref 76] (hT m)) (none, hU4 m, 0, 0) := ⟨200, eqR_ok (all9 cpA4_all h1 h2)⟩
theorem skA4_all : (List.range 9).all (fun m => Nat.blt m 4 || eqR (mrun [] 40 10 14 (mentry 14 [.ref 84] (hU4 m))) (some (.int 10)) (hU4 m) 0 0) = true := by decide +kernel
theorem skA4 {m : Nat} (h1 : 4 ≤ m) (h2 : m ≤ 8) : mEnds [] 10 14 (mentry 14 [.ref 84] (hU4 m)) (some (.int 10), hU4 m, 0, 0) := ⟨40, eqR_ok (all9 skA4_all h1 h2)⟩
theorem paA4_0_all : (List.range 9).all (fun m => Nat.blt m 4 || eqR (mrun [] 100 10 24 (mentry 24 [.ref 84, .int 10, .int 0] (hU4 m))) (none) (hT (mx 4 m)) 0 0) = true := by decide +kernel
theorem paA4_0 {m : Nat} (h1 : 4 ≤ m) (h2 : m ≤ 8) : mEnds [] 10 24 (mentry 24 [.ref 84, .int 10, .int 0] (hU4 m)) (none, hT (mx 4 m), 0, 0) := ⟨100, eqR_ok (all9 paA4_0_all h1 h2)⟩
theorem paA4_1_all : (List.range 9).all (fun m => Nat.blt m 4 || eqR (mrun [] 100 10 24 (mentry 24 [.ref 84, .int 10, .int 1] (hU4 m))) (none) (hT (mx 4 m)) 0 0) = true := by decide +kernel
theorem paA4_1 {m : Nat} (h1 : 4 ≤ m) (h2 : m ≤ 8) : mEnds [] 10 24 (mentry 24 [.ref 84, .int 10, .int 1] (hU4 m)) (none, hT (mx 4 m), 0, 0) := ⟨100, eqR_ok (all9 paA4_1_all h1 h2)⟩
theorem oc5_all : (List.range 9).all (fun m => Nat.blt m 5 || eqR (mrun [] 60 10 85 (mentry 85 [.ref 1, .ref 84, .int (-4), .int 0] (hT m))) (some (.int 0)) (hT m) 0 0) = true := by decide +kernel
theorem oc5 {m : Nat} (h1 : 5 ≤ m) (h2 : m ≤ 8) : mEnds [] 10 85 (mentry 85 [.ref 1, .ref 84, .int (-4), .int 0] (hT m)) (some (.int 0), hT m, 0, 0) := ⟨60, eqR_ok (all9 oc5_all h1 h2)⟩
def hU5 (m : Nat) : mH := (hT m).set 92 (.inr (1, [.int 0, .int 0, .int (nI 5), .int 0, .int 0, .ref 93, .ref 94, .ref 95, .ref 96, .ref 97, .ref 98, .ref 99]))
theorem cpA5_all : (List.range 9).all (fun m => Nat.blt m 5 || eqR (mrun [] 200 10 7 (mentry 7 [.ref 92, .ref 84] (hT m))) (none) (hU5 m) 0 0) = true := by decide +kernel
theorem cpA5 {m : Nat} (h1 : 5 ≤ m) (h2 : m ≤ 8) : mEnds [] 10 7 (mentry 7 [.ref 92, .ref 84] (hT m)) (none, hU5 m, 0, 0) := ⟨200, eqR_ok (all9 cpA5_all h1 h2)⟩
theorem skA5_all : (List.range 9).all (fun m => Nat.blt m 5 || eqR (mrun [] 40 10 14 (mentry 14 [.ref 92] (hU5 m))) (some (.int 10)) (hU5 m) 0 0) = true := by decide +kernel
theorem skA5 {m : Nat} (h1 : 5 ≤ m) (h2 : m ≤ 8) : mEnds [] 10 14 (mentry 14 [.ref 92] (hU5 m)) (some (.int 10), hU5 m, 0, 0) := ⟨40, eqR_ok (all9 skA5_all h1 h2)⟩
theorem paA5_0_all : (List.range 9).all (fun m => Nat.blt m 5 || eqR (mrun [] 100 10 24 (mentry 24 [.ref 92, .int 10, .int 0] (hU5 m))) (none) (hT (mx 5 m)) 0 0) = true := by decide +kernel
theorem paA5_0 {m : Nat} (h1 : 5 ≤ m) (h2 : m ≤ 8) : mEnds [] 10 24 (mentry 24 [.ref 92, .int 10, .int 0] (hU5 m)) (none, hT (mx 5 m), 0, 0) := ⟨100, eqR_ok (all9 paA5_0_all h1 h2)⟩
theorem paA5_1_all : (List.range 9).all (fun m => Nat.blt m 5 || eqR (mrun [] 100 10 24 (mentry 24 [.ref 92, .int 10, .int 1] (hU5 m))) (none) (hT (mx 5 m)) 0 0) = true := by decide +kernel
theorem paA5_1 {m : Nat} (h1 : 5 ≤ m) (h2 : m ≤ 8) : mEnds [] 10 24 (mentry 24 [.ref 92, .int 10, .int 1] (hU5 m)) (none, hT (mx 5 m), 0, 0) := ⟨100, eqR_ok (all9 paA5_1_all h1 h2)⟩
theorem oc6_all : (List.range 9).all (fun m => Nat.blt m 6 || eqR (mrun [] 60 10 85 (mentry 85 [.ref 1, .ref 92, .int (-4), .int 0] (hT m))) (some (.int 0)) (hT m) 0 0) = true := by decide +kernel
theorem oc6 {m : Nat} (h1 : 6 ≤ m) (h2 : m ≤ 8) : mEnds [] 10 85 (mentry 85 [.ref 1, .ref 92, .int (-4), .int 0] (hT m)) (some (.int 0), hT m, 0, 0) := ⟨60, eqR_ok (all9 oc6_all h1 h2)⟩
def hU6 (m : Nat) : mH := (hT m).set 100 (.inr (1, [.int 0, .int 0, .int (nI 6), .int 0, .int 0, .ref 101, .ref 102, .ref 103, .ref 104, .ref 105, .ref 106, .ref 107]))
theorem cpA6_all : (List.range 9).all (fun m => Nat.blt m 6 || eqR (mrun [] 200 10 7 (mentry 7 [.ref 100, .ref 92] (hT m))) (none) (hU6 m) 0 0) = true := by decide +kernel
theorem cpA6 {m : Nat} (h1 : 6 ≤ m) (h2 : m ≤ 8) : mEnds [] 10 7 (mentry 7 [.ref 100, .ref 92] (hT m)) (none, hU6 m, 0, 0) := ⟨200, eqR_ok (all9 cpA6_all h1 h2)⟩
theorem skA6_all : (List.range 9).all (fun m => Nat.blt m 6 || eqR (mrun [] 40 10 14 (mentry 14 [.ref 100] (hU6 m))) (some (.int 10)) (hU6 m) 0 0) = true := by decide +kernel
theorem skA6 {m : Nat} (h1 : 6 ≤ m) (h2 : m ≤ 8) : mEnds [] 10 14 (mentry 14 [.ref 100] (hU6 m)) (some (.int 10), hU6 m, 0, 0) := ⟨40, eqR_ok (all9 skA6_all h1 h2)⟩
theorem paA6_0_all : (List.range 9).all (fun m => Nat.blt m 6 || eqR (mrun [] 100 10 24 (mentry 24 [.ref 100, .int 10, .int 0] (hU6 m))) (none) (hT (mx 6 m)) 0 0) = true := by decide +kernel
theorem paA6_0 {m : Nat} (h1 : 6 ≤ m) (h2 : m ≤ 8) : mEnds [] 10 24 (mentry 24 [.ref 100, .int 10, .int 0] (hU6 m)) (none, hT (mx 6 m), 0, 0) := ⟨100, eqR_ok (all9 paA6_0_all h1 h2)⟩
theorem paA6_1_all : (List.range 9).all (fun m => Nat.blt m 6 || eqR (mrun [] 100 10 24 (mentry 24 [.ref 100, .int 10, .int 1] (hU6 m))) (none) (hT (mx 6 m)) 0 0) = true := by decide +kernel
theorem paA6_1 {m : Nat} (h1 : 6 ≤ m) (h2 : m ≤ 8) : mEnds [] 10 24 (mentry 24 [.ref 100, .int 10, .int 1] (hU6 m)) (none, hT (mx 6 m), 0, 0) := ⟨100, eqR_ok (all9 paA6_1_all h1 h2)⟩
theorem oc7_all : (List.range 9).all (fun m => Nat.blt m 7 || eqR (mrun [] 60 10 85 (mentry 85 [.ref 1, .ref 100, .int (-4), .int 0] (hT m))) (some (.int 0)) (hT m) 0 0) = true := by decide +kernel
theorem oc7 {m : Nat} (h1 : 7 ≤ m) (h2 : m ≤ 8) : mEnds [] 10 85 (mentry 85 [.ref 1, .ref 100, .int (-4), .int 0] (hT m)) (some (.int 0), hT m, 0, 0) := ⟨60, eqR_ok (all9 oc7_all h1 h2)⟩
def hU7 (m : Nat) : mH := (hT m).set 108 (.inr (1, [.int 0, .int 0, .int (nI 7), .int 0, .int 0, .ref 109, .ref 110, .ref 111, .ref 112, .ref 113, .ref 114, .ref 115]))
theorem cpA7_all : (List.range 9).all (fun m => Nat.blt m 7 || eqR (mrun [] 200 10 7 (mentry 7 [.ref 108, .ref 100] (hT m))) (none) (hU7 m) 0 0) = true := by decide +kernel
theorem cpA7 {m : Nat} (h1 : 7 ≤ m) (h2 : m ≤ 8) : mEnds [] 10 7 (mentry 7 [.ref 108, .ref 100] (hT m)) (none, hU7 m, 0, 0) := ⟨200, eqR_ok (all9 cpA7_all h1 h2)⟩
theorem skA7_all : (List.range 9).all (fun m => Nat.blt m 7 || eqR (mrun [] 40 10 14 (mentry 14 [.ref 108] (hU7 m))) (some (.int 10)) (hU7 m) 0 0) = true := by decide +kernel
theorem skA7 {m : Nat} (h1 : 7 ≤ m) (h2 : m ≤ 8) : mEnds [] 10 14 (mentry 14 [.ref 108] (hU7 m)) (some (.int 10), hU7 m, 0, 0) := ⟨40, eqR_ok (all9 skA7_all h1 h2)⟩
theorem paA7_0_all : (List.range 9).all (fun m => Nat.blt m 7 || eqR (mrun [] 100 10 24 (mentry 24 [.ref 108, .int 10, .int 0] (hU7 m))) (none) (hT (mx 7 m)) 0 0) = true := by decide +kernel
theorem paA7_0 {m : Nat} (h1 : 7 ≤ m) (h2 : m ≤ 8) : mEnds [] 10 24 (mentry 24 [.ref 108, .int 10, .int 0] (hU7 m)) (none, hT (mx 7 m), 0, 0) := ⟨100, eqR_ok (all9 paA7_0_all h1 h2)⟩
theorem paA7_1_all : (List.range 9).all (fun m => Nat.blt m 7 || eqR (mrun [] 100 10 24 (mentry 24 [.ref 108, .int 10, .int 1] (hU7 m))) (none) (hT (mx 7 m)) 0 0) = true := by decide +kernel
theorem paA7_1 {m : Nat} (h1 : 7 ≤ m) (h2 : m ≤ 8) : mEnds [] 10 24 (mentry 24 [.ref 108, .int 10, .int 1] (hU7 m)) (none, hT (mx 7 m), 0, 0) := ⟨100, eqR_ok (all9 paA7_1_all h1 h2)⟩
theorem oc8_all : (List.range 9).all (fun m => Nat.blt m 8 || eqR (mrun [] 60 10 85 (mentry 85 [.ref 1, .ref 108, .int (-4), .int 0] (hT m))) (some (.int 0)) (hT m) 0 0) = true := by decide +kernel
theorem oc8 {m : Nat} (h1 : 8 ≤ m) (h2 : m ≤ 8) : mEnds [] 10 85 (mentry 85 [.ref 1, .ref 108, .int (-4), .int 0] (hT m)) (some (.int 0), hT m, 0, 0) := ⟨60, eqR_ok (all9 oc8_all h1 h2)⟩
set_option maxRecDepth 100000 in
theorem wg8 {N m : Nat} (v : Int32) (hN : N ≤ 8) (hd : 8 ≤ N) (h1 : 8 ≤ m) (h2 : m ≤ 8) : ∃ M, 8 ≤ M ∧ M ≤ 8 ∧ mEnds [] 11 84 (mentry 84 [.ref 1, .int 8, .int (nI N), .int v, .int (-4), .int 0] (hT m)) (some (.long 0), hT M, 0, 0) := by
  have pre : ∀ {x : Option Value × mH × Nat × Nat}, mEnds [] 11 84 (10, [some (.ref 1), some (.int 8), some (.int (nI N)), some (.int v), some (.int (-4)), some (.int 0), some (.ref 108), none, none, none, none, none], [.int (nI N), .int 8], hT m, 0, 0) x → mEnds [] 11 84 (mentry 84 [.ref 1, .int 8, .int (nI N), .int v, .int (-4), .int 0] (hT m)) x := fun k =>
    mEnds.steps 7 (q' := (10, [some (.ref 1), some (.int 8), some (.int (nI N)), some (.int v), some (.int (-4)), some (.int 0), some (.ref 108), none, none, none, none, none], [.int (nI N), .int 8], hT m, 0, 0)) rfl k
  by_cases e : N ≤ 8
  · refine ⟨m, h1, h2, pre ?_⟩
    refine mEnds.brT (q' := (21, [some (.ref 1), some (.int 8), some (.int (nI N)), some (.int v), some (.int (-4)), some (.int 0), some (.ref 108), none, none, none, none, none], [], hT m, 0, 0)) rfl (decide_eq_true (nI_le (b := 8) e (by decide))) rfl ?_
    refine mEnds.steps 4 (q' := (28, [some (.ref 1), some (.int 8), some (.int (nI N)), some (.int v), some (.int (-4)), some (.int 0), some (.ref 108), none, none, none, none, none], [.int 0, .int (-4), .ref 108, .ref 1], hT m, 0, 0)) rfl ?_
    refine mEnds.call (d := 10) (y' := 85) (as := [.ref 1, .ref 108, .int (-4), .int 0]) (q' := (31, [some (.ref 1), some (.int 8), some (.int (nI N)), some (.int v), some (.int (-4)), some (.int 0), some (.ref 108), none, none, none, none, none], [], hT m, 0, 0)) (v := some (.int 0)) (hs' := hT m) (c' := 0) (s' := 0) rfl rfl (mEnds.deep (oc8 h1 h2) 0) ?_
    show mEnds [] 11 84 (31, [some (.ref 1), some (.int 8), some (.int (nI N)), some (.int v), some (.int (-4)), some (.int 0), some (.ref 108), none, none, none, none, none], [.int 0], hT m, 0, 0) _
    refine mEnds.steps 1 (q' := (32, [some (.ref 1), some (.int 8), some (.int (nI N)), some (.int v), some (.int (-4)), some (.int 0), some (.ref 108), none, none, none, none, none], [.long 0], hT m, 0, 0)) rfl ?_
    exact mEnds.ret rfl
  · exact absurd hN (by omega)
set_option maxRecDepth 100000 in
theorem it7_1 {N m : Nat} (v : Int32) (hN : N ≤ 8) (hd : 7 < N) (h1 : 7 ≤ m) (h2 : m ≤ 8) (o10 o11 : Option Value)
    (IH : ∀ {m : Nat}, 8 ≤ m → m ≤ 8 → ∃ M, 8 ≤ M ∧ M ≤ 8 ∧ mEnds [] 11 84 (mentry 84 [.ref 1, .int 8, .int (nI N), .int v, .int (-4), .int 0] (hT m)) (some (.long 0), hT M, 0, 0))
    (K : ∀ (m : Nat) (o10 o11 : Option Value), 7 ≤ m → m ≤ 8 → ∃ M, 7 ≤ M ∧ M ≤ 8 ∧ mEnds [] 12 84 (126, [some (.ref 1), some (.int 7), some (.int (nI N)), some (.int v), some (.int (-4)), some (.int 0), some (.ref 100), some (.long 0), none, some (.int 1), o10, o11], [], hT m, 0, 0) (some (.long 0), hT M, 0, 0)) :
    ∃ M, 7 ≤ M ∧ M ≤ 8 ∧ mEnds [] 12 84 (39, [some (.ref 1), some (.int 7), some (.int (nI N)), some (.int v), some (.int (-4)), some (.int 0), some (.ref 100), some (.long 0), none, some (.int 1), o10, o11], [], hT m, 0, 0) (some (.long 0), hT M, 0, 0) := by
  cases f : decide (v ≤ 0) with
  | true =>
    obtain ⟨M, g1, g2, g3⟩ := K m (some (.int v)) o11 h1 h2
    refine ⟨M, g1, g2, ?_⟩
    refine mEnds.steps 10 (q' := (63, [some (.ref 1), some (.int 7), some (.int (nI N)), some (.int v), some (.int (-4)), some (.int 0), some (.ref 100), some (.long 0), none, some (.int 1), some (.int v), o11], [.int v], hT m, 0, 0)) rfl ?_
    exact mEnds.brT (q' := (126, [some (.ref 1), some (.int 7), some (.int (nI N)), some (.int v), some (.int (-4)), some (.int 0), some (.ref 100), some (.long 0), none, some (.int 1), some (.int v), o11], [], hT m, 0, 0)) rfl f rfl g3
  | false =>
    obtain ⟨m1, i1, i2, i3⟩ := IH (m := mx 7 m) mx_ge (mx_le (by decide) h2)
    obtain ⟨M, g1, g2, g3⟩ := K m1 (some (.int v)) (some (.ref 108)) (by omega) i2
    refine ⟨M, g1, g2, ?_⟩
    refine mEnds.steps 10 (q' := (63, [some (.ref 1), some (.int 7), some (.int (nI N)), some (.int v), some (.int (-4)), some (.int 0), some (.ref 100), some (.long 0), none, some (.int 1), some (.int v), o11], [.int v], hT m, 0, 0)) rfl ?_
    refine mEnds.brF (q' := (66, [some (.ref 1), some (.int 7), some (.int (nI N)), some (.int v), some (.int (-4)), some (.int 0), some (.ref 100), some (.long 0), none, some (.int 1), some (.int v), o11], [], hT m, 0, 0)) rfl f rfl ?_
    refine mEnds.steps 9 (q' := (80, [some (.ref 1), some (.int 7), some (.int (nI N)), some (.int v), some (.int (-4)), some (.int 0), some (.ref 100), some (.long 0), none, some (.int 1), some (.int v), some (.ref 108)], [.ref 100, .ref 108], hT m, 0, 0)) rfl ?_
    refine mEnds.call (d := 11) (y' := 7) (as := [.ref 108, .ref 100]) (q' := (83, [some (.ref 1), some (.int 7), some (.int (nI N)), some (.int v), some (.int (-4)), some (.int 0), some (.ref 100), some (.long 0), none, some (.int 1), some (.int v), some (.ref 108)], [], hT m, 0, 0)) (v := none) (hs' := hU7 m) (c' := 0) (s' := 0) rfl rfl (mEnds.deep (cpA7 h1 h2) 1) ?_
    show mEnds [] 12 84 (83, [some (.ref 1), some (.int 7), some (.int (nI N)), some (.int v), some (.int (-4)), some (.int 0), some (.ref 100), some (.long 0), none, some (.int 1), some (.int v), some (.ref 108)], [], hU7 m, 0, 0) _
    refine mEnds.steps 2 (q' := (87, [some (.ref 1), some (.int 7), some (.int (nI N)), some (.int v), some (.int (-4)), some (.int 0), some (.ref 100), some (.long 0), none, some (.int 1), some (.int v), some (.ref 108)], [.ref 108, .ref 108], hU7 m, 0, 0)) rfl ?_
    refine mEnds.call (d := 11) (y' := 14) (as := [.ref 108]) (q' := (90, [some (.ref 1), some (.int 7), some (.int (nI N)), some (.int v), some (.int (-4)), some (.int 0), some (.ref 100), some (.long 0), none, some (.int 1), some (.int v), some (.ref 108)], [.ref 108], hU7 m, 0, 0)) (v := some (.int 10)) (hs' := hU7 m) (c' := 0) (s' := 0) rfl rfl (mEnds.deep (skA7 h1 h2) 1) ?_
    show mEnds [] 12 84 (90, [some (.ref 1), some (.int 7), some (.int (nI N)), some (.int v), some (.int (-4)), some (.int 0), some (.ref 100), some (.long 0), none, some (.int 1), some (.int v), some (.ref 108)], [.int 10, .ref 108], hU7 m, 0, 0) _
    refine mEnds.steps 5 (q' := (101, [some (.ref 1), some (.int 7), some (.int (nI N)), some (.int v), some (.int (-4)), some (.int 0), some (.ref 100), some (.long 0), none, some (.int 1), some (.int v), some (.ref 108)], [.int 1, .int 10, .ref 108], hU7 m, 0, 0)) rfl ?_
    refine mEnds.call (d := 11) (y' := 24) (as := [.ref 108, .int 10, .int 1]) (q' := (104, [some (.ref 1), some (.int 7), some (.int (nI N)), some (.int v), some (.int (-4)), some (.int 0), some (.ref 100), some (.long 0), none, some (.int 1), some (.int v), some (.ref 108)], [], hU7 m, 0, 0)) (v := none) (hs' := hT (mx 7 m)) (c' := 0) (s' := 0) rfl rfl (mEnds.deep (paA7_1 h1 h2) 1) ?_
    show mEnds [] 12 84 (104, [some (.ref 1), some (.int 7), some (.int (nI N)), some (.int v), some (.int (-4)), some (.int 0), some (.ref 100), some (.long 0), none, some (.int 1), some (.int v), some (.ref 108)], [], hT (mx 7 m), 0, 0) _
    refine mEnds.steps 11 (q' := (119, [some (.ref 1), some (.int 7), some (.int (nI N)), some (.int v), some (.int (-4)), some (.int 0), some (.ref 100), some (.long 0), none, some (.int 1), some (.int v), some (.ref 108)], [.int 0, .int (-4), .int v, .int (nI N), .int 8, .ref 1, .long (v).toInt64, .long 0], hT (mx 7 m), 0, 0)) rfl ?_
    refine mEnds.call (d := 11) (y' := 84) (as := [.ref 1, .int 8, .int (nI N), .int v, .int (-4), .int 0]) (q' := (122, [some (.ref 1), some (.int 7), some (.int (nI N)), some (.int v), some (.int (-4)), some (.int 0), some (.ref 100), some (.long 0), none, some (.int 1), some (.int v), some (.ref 108)], [.long (v).toInt64, .long 0], hT (mx 7 m), 0, 0)) (v := some (.long 0)) (hs' := hT m1) (c' := 0) (s' := 0) rfl rfl i3 ?_
    show mEnds [] 12 84 (122, [some (.ref 1), some (.int 7), some (.int (nI N)), some (.int v), some (.int (-4)), some (.int 0), some (.ref 100), some (.long 0), none, some (.int 1), some (.int v), some (.ref 108)], [.long 0, .long (v).toInt64, .long 0], hT m1, 0, 0) _
    refine mEnds.steps 3 (q' := (126, [some (.ref 1), some (.int 7), some (.int (nI N)), some (.int v), some (.int (-4)), some (.int 0), some (.ref 100), some (.long (0 + (v).toInt64 * 0)), none, some (.int 1), some (.int v), some (.ref 108)], [], hT m1, 0, 0)) rfl ?_
    rw [lz]
    exact g3
set_option maxRecDepth 100000 in
theorem it7_0 {N m : Nat} (v : Int32) (hN : N ≤ 8) (hd : 7 < N) (h1 : 7 ≤ m) (h2 : m ≤ 8) (o10 o11 : Option Value)
    (IH : ∀ {m : Nat}, 8 ≤ m → m ≤ 8 → ∃ M, 8 ≤ M ∧ M ≤ 8 ∧ mEnds [] 11 84 (mentry 84 [.ref 1, .int 8, .int (nI N), .int v, .int (-4), .int 0] (hT m)) (some (.long 0), hT M, 0, 0))
    (K : ∀ (m : Nat) (o10 o11 : Option Value), 7 ≤ m → m ≤ 8 → ∃ M, 7 ≤ M ∧ M ≤ 8 ∧ mEnds [] 12 84 (126, [some (.ref 1), some (.int 7), some (.int (nI N)), some (.int v), some (.int (-4)), some (.int 0), some (.ref 100), some (.long 0), none, some (.int 0), o10, o11], [], hT m, 0, 0) (some (.long 0), hT M, 0, 0)) :
    ∃ M, 7 ≤ M ∧ M ≤ 8 ∧ mEnds [] 12 84 (39, [some (.ref 1), some (.int 7), some (.int (nI N)), some (.int v), some (.int (-4)), some (.int 0), some (.ref 100), some (.long 0), none, some (.int 0), o10, o11], [], hT m, 0, 0) (some (.long 0), hT M, 0, 0) := by
  cases f : decide ((10 - v) ≤ 0) with
  | true =>
    obtain ⟨M, g1, g2, g3⟩ := K m (some (.int (10 - v))) o11 h1 h2
    refine ⟨M, g1, g2, ?_⟩
    refine mEnds.steps 11 (q' := (63, [some (.ref 1), some (.int 7), some (.int (nI N)), some (.int v), some (.int (-4)), some (.int 0), some (.ref 100), some (.long 0), none, some (.int 0), some (.int (10 - v)), o11], [.int (10 - v)], hT m, 0, 0)) rfl ?_
    exact mEnds.brT (q' := (126, [some (.ref 1), some (.int 7), some (.int (nI N)), some (.int v), some (.int (-4)), some (.int 0), some (.ref 100), some (.long 0), none, some (.int 0), some (.int (10 - v)), o11], [], hT m, 0, 0)) rfl f rfl g3
  | false =>
    obtain ⟨m1, i1, i2, i3⟩ := IH (m := mx 7 m) mx_ge (mx_le (by decide) h2)
    obtain ⟨M, g1, g2, g3⟩ := K m1 (some (.int (10 - v))) (some (.ref 108)) (by omega) i2
    refine ⟨M, g1, g2, ?_⟩
    refine mEnds.steps 11 (q' := (63, [some (.ref 1), some (.int 7), some (.int (nI N)), some (.int v), some (.int (-4)), some (.int 0), some (.ref 100), some (.long 0), none, some (.int 0), some (.int (10 - v)), o11], [.int (10 - v)], hT m, 0, 0)) rfl ?_
    refine mEnds.brF (q' := (66, [some (.ref 1), some (.int 7), some (.int (nI N)), some (.int v), some (.int (-4)), some (.int 0), some (.ref 100), some (.long 0), none, some (.int 0), some (.int (10 - v)), o11], [], hT m, 0, 0)) rfl f rfl ?_
    refine mEnds.steps 9 (q' := (80, [some (.ref 1), some (.int 7), some (.int (nI N)), some (.int v), some (.int (-4)), some (.int 0), some (.ref 100), some (.long 0), none, some (.int 0), some (.int (10 - v)), some (.ref 108)], [.ref 100, .ref 108], hT m, 0, 0)) rfl ?_
    refine mEnds.call (d := 11) (y' := 7) (as := [.ref 108, .ref 100]) (q' := (83, [some (.ref 1), some (.int 7), some (.int (nI N)), some (.int v), some (.int (-4)), some (.int 0), some (.ref 100), some (.long 0), none, some (.int 0), some (.int (10 - v)), some (.ref 108)], [], hT m, 0, 0)) (v := none) (hs' := hU7 m) (c' := 0) (s' := 0) rfl rfl (mEnds.deep (cpA7 h1 h2) 1) ?_
    show mEnds [] 12 84 (83, [some (.ref 1), some (.int 7), some (.int (nI N)), some (.int v), some (.int (-4)), some (.int 0), some (.ref 100), some (.long 0), none, some (.int 0), some (.int (10 - v)), some (.ref 108)], [], hU7 m, 0, 0) _
    refine mEnds.steps 2 (q' := (87, [some (.ref 1), some (.int 7), some (.int (nI N)), some (.int v), some (.int (-4)), some (.int 0), some (.ref 100), some (.long 0), none, some (.int 0), some (.int (10 - v)), some (.ref 108)], [.ref 108, .ref 108], hU7 m, 0, 0)) rfl ?_
    refine mEnds.call (d := 11) (y' := 14) (as := [.ref 108]) (q' := (90, [some (.ref 1), some (.int 7), some (.int (nI N)), some (.int v), some (.int (-4)), some (.int 0), some (.ref 100), some (.long 0), none, some (.int 0), some (.int (10 - v)), some (.ref 108)], [.ref 108], hU7 m, 0, 0)) (v := some (.int 10)) (hs' := hU7 m) (c' := 0) (s' := 0) rfl rfl (mEnds.deep (skA7 h1 h2) 1) ?_
    show mEnds [] 12 84 (90, [some (.ref 1), some (.int 7), some (.int (nI N)), some (.int v), some (.int (-4)), some (.int 0), some (.ref 100), some (.long 0), none, some (.int 0), some (.int (10 - v)), some (.ref 108)], [.int 10, .ref 108], hU7 m, 0, 0) _
    refine mEnds.steps 4 (q' := (101, [some (.ref 1), some (.int 7), some (.int (nI N)), some (.int v), some (.int (-4)), some (.int 0), some (.ref 100), some (.long 0), none, some (.int 0), some (.int (10 - v)), some (.ref 108)], [.int 0, .int 10, .ref 108], hU7 m, 0, 0)) rfl ?_
    refine mEnds.call (d := 11) (y' := 24) (as := [.ref 108, .int 10, .int 0]) (q' := (104, [some (.ref 1), some (.int 7), some (.int (nI N)), some (.int v), some (.int (-4)), some (.int 0), some (.ref 100), some (.long 0), none, some (.int 0), some (.int (10 - v)), some (.ref 108)], [], hU7 m, 0, 0)) (v := none) (hs' := hT (mx 7 m)) (c' := 0) (s' := 0) rfl rfl (mEnds.deep (paA7_0 h1 h2) 1) ?_
    show mEnds [] 12 84 (104, [some (.ref 1), some (.int 7), some (.int (nI N)), some (.int v), some (.int (-4)), some (.int 0), some (.ref 100), some (.long 0), none, some (.int 0), some (.int (10 - v)), some (.ref 108)], [], hT (mx 7 m), 0, 0) _
    refine mEnds.steps 11 (q' := (119, [some (.ref 1), some (.int 7), some (.int (nI N)), some (.int v), some (.int (-4)), some (.int 0), some (.ref 100), some (.long 0), none, some (.int 0), some (.int (10 - v)), some (.ref 108)], [.int 0, .int (-4), .int v, .int (nI N), .int 8, .ref 1, .long ((10 - v)).toInt64, .long 0], hT (mx 7 m), 0, 0)) rfl ?_
    refine mEnds.call (d := 11) (y' := 84) (as := [.ref 1, .int 8, .int (nI N), .int v, .int (-4), .int 0]) (q' := (122, [some (.ref 1), some (.int 7), some (.int (nI N)), some (.int v), some (.int (-4)), some (.int 0), some (.ref 100), some (.long 0), none, some (.int 0), some (.int (10 - v)), some (.ref 108)], [.long ((10 - v)).toInt64, .long 0], hT (mx 7 m), 0, 0)) (v := some (.long 0)) (hs' := hT m1) (c' := 0) (s' := 0) rfl rfl i3 ?_
    show mEnds [] 12 84 (122, [some (.ref 1), some (.int 7), some (.int (nI N)), some (.int v), some (.int (-4)), some (.int 0), some (.ref 100), some (.long 0), none, some (.int 0), some (.int (10 - v)), some (.ref 108)], [.long 0, .long ((10 - v)).toInt64, .long 0], hT m1, 0, 0) _
    refine mEnds.steps 3 (q' := (126, [some (.ref 1), some (.int 7), some (.int (nI N)), some (.int v), some (.int (-4)), some (.int 0), some (.ref 100), some (.long (0 + ((10 - v)).toInt64 * 0)), none, some (.int 0), some (.int (10 - v)), some (.ref 108)], [], hT m1, 0, 0)) rfl ?_
    rw [lz]
    exact g3
set_option maxRecDepth 100000 in
theorem wg7 {N m : Nat} (v : Int32) (hN : N ≤ 8) (hd : 7 ≤ N) (h1 : 7 ≤ m) (h2 : m ≤ 8) : ∃ M, 7 ≤ M ∧ M ≤ 8 ∧ mEnds [] 12 84 (mentry 84 [.ref 1, .int 7, .int (nI N), .int v, .int (-4), .int 0] (hT m)) (some (.long 0), hT M, 0, 0) := by
  have pre : ∀ {x : Option Value × mH × Nat × Nat}, mEnds [] 12 84 (10, [some (.ref 1), some (.int 7), some (.int (nI N)), some (.int v), some (.int (-4)), some (.int 0), some (.ref 100), none, none, none, none, none], [.int (nI N), .int 7], hT m, 0, 0) x → mEnds [] 12 84 (mentry 84 [.ref 1, .int 7, .int (nI N), .int v, .int (-4), .int 0] (hT m)) x := fun k =>
    mEnds.steps 7 (q' := (10, [some (.ref 1), some (.int 7), some (.int (nI N)), some (.int v), some (.int (-4)), some (.int 0), some (.ref 100), none, none, none, none, none], [.int (nI N), .int 7], hT m, 0, 0)) rfl k
  by_cases e : N ≤ 7
  · refine ⟨m, h1, h2, pre ?_⟩
    refine mEnds.brT (q' := (21, [some (.ref 1), some (.int 7), some (.int (nI N)), some (.int v), some (.int (-4)), some (.int 0), some (.ref 100), none, none, none, none, none], [], hT m, 0, 0)) rfl (decide_eq_true (nI_le (b := 7) e (by decide))) rfl ?_
    refine mEnds.steps 4 (q' := (28, [some (.ref 1), some (.int 7), some (.int (nI N)), some (.int v), some (.int (-4)), some (.int 0), some (.ref 100), none, none, none, none, none], [.int 0, .int (-4), .ref 100, .ref 1], hT m, 0, 0)) rfl ?_
    refine mEnds.call (d := 11) (y' := 85) (as := [.ref 1, .ref 100, .int (-4), .int 0]) (q' := (31, [some (.ref 1), some (.int 7), some (.int (nI N)), some (.int v), some (.int (-4)), some (.int 0), some (.ref 100), none, none, none, none, none], [], hT m, 0, 0)) (v := some (.int 0)) (hs' := hT m) (c' := 0) (s' := 0) rfl rfl (mEnds.deep (oc7 h1 h2) 1) ?_
    show mEnds [] 12 84 (31, [some (.ref 1), some (.int 7), some (.int (nI N)), some (.int v), some (.int (-4)), some (.int 0), some (.ref 100), none, none, none, none, none], [.int 0], hT m, 0, 0) _
    refine mEnds.steps 1 (q' := (32, [some (.ref 1), some (.int 7), some (.int (nI N)), some (.int v), some (.int (-4)), some (.int 0), some (.ref 100), none, none, none, none, none], [.long 0], hT m, 0, 0)) rfl ?_
    exact mEnds.ret rfl
  · obtain ⟨M, g1, g2, g3⟩ := it7_0 (N := N) (m := m) v hN (by omega) h1 h2 none none (fun a b => wg8 v hN (by omega) a b) (fun m o10 o11 h1 h2 => by
      obtain ⟨M, g1, g2, g3⟩ := it7_1 (N := N) (m := m) v hN (by omega) h1 h2 o10 o11 (fun a b => wg8 v hN (by omega) a b) (fun m o10 o11 h1 h2 => by
        refine ⟨m, h1, h2, ?_⟩
        refine mEnds.steps 6 (q' := (134, [some (.ref 1), some (.int 7), some (.int (nI N)), some (.int v), some (.int (-4)), some (.int 0), some (.ref 100), some (.long 0), none, some (.int 2), o10, o11], [.long 0], hT m, 0, 0)) rfl ?_
        exact mEnds.ret rfl)
      refine ⟨M, g1, g2, ?_⟩
      exact mEnds.steps 2 (q' := (39, [some (.ref 1), some (.int 7), some (.int (nI N)), some (.int v), some (.int (-4)), some (.int 0), some (.ref 100), some (.long 0), none, some (.int 1), o10, o11], [], hT m, 0, 0)) rfl g3)
    refine ⟨M, g1, g2, pre ?_⟩
    refine mEnds.brF (q' := (13, [some (.ref 1), some (.int 7), some (.int (nI N)), some (.int v), some (.int (-4)), some (.int 0), some (.ref 100), none, none, none, none, none], [], hT m, 0, 0)) rfl (decide_eq_false (nI_ge (a := 7) (by omega) (by omega))) rfl ?_
    exact mEnds.steps 9 (q' := (39, [some (.ref 1), some (.int 7), some (.int (nI N)), some (.int v), some (.int (-4)), some (.int 0), some (.ref 100), some (.long 0), none, some (.int 0), none, none], [], hT m, 0, 0)) rfl g3
set_option maxRecDepth 100000 in
theorem it6_1 {N m : Nat} (v : Int32) (hN : N ≤ 8) (hd : 6 < N) (h1 : 6 ≤ m) (h2 : m ≤ 8) (o10 o11 : Option Value)
    (IH : ∀ {m : Nat}, 7 ≤ m → m ≤ 8 → ∃ M, 7 ≤ M ∧ M ≤ 8 ∧ mEnds [] 12 84 (mentry 84 [.ref 1, .int 7, .int (nI N), .int v, .int (-4), .int 0] (hT m)) (some (.long 0), hT M, 0, 0))
    (K : ∀ (m : Nat) (o10 o11 : Option Value), 6 ≤ m → m ≤ 8 → ∃ M, 6 ≤ M ∧ M ≤ 8 ∧ mEnds [] 13 84 (126, [some (.ref 1), some (.int 6), some (.int (nI N)), some (.int v), some (.int (-4)), some (.int 0), some (.ref 92), some (.long 0), none, some (.int 1), o10, o11], [], hT m, 0, 0) (some (.long 0), hT M, 0, 0)) :
    ∃ M, 6 ≤ M ∧ M ≤ 8 ∧ mEnds [] 13 84 (39, [some (.ref 1), some (.int 6), some (.int (nI N)), some (.int v), some (.int (-4)), some (.int 0), some (.ref 92), some (.long 0), none, some (.int 1), o10, o11], [], hT m, 0, 0) (some (.long 0), hT M, 0, 0) := by
  cases f : decide (v ≤ 0) with
  | true =>
    obtain ⟨M, g1, g2, g3⟩ := K m (some (.int v)) o11 h1 h2
    refine ⟨M, g1, g2, ?_⟩
    refine mEnds.steps 10 (q' := (63, [some (.ref 1), some (.int 6), some (.int (nI N)), some (.int v), some (.int (-4)), some (.int 0), some (.ref 92), some (.long 0), none, some (.int 1), some (.int v), o11], [.int v], hT m, 0, 0)) rfl ?_
    exact mEnds.brT (q' := (126, [some (.ref 1), some (.int 6), some (.int (nI N)), some (.int v), some (.int (-4)), some (.int 0), some (.ref 92), some (.long 0), none, some (.int 1), some (.int v), o11], [], hT m, 0, 0)) rfl f rfl g3
  | false =>
    obtain ⟨m1, i1, i2, i3⟩ := IH (m := mx 6 m) mx_ge (mx_le (by decide) h2)
    obtain ⟨M, g1, g2, g3⟩ := K m1 (some (.int v)) (some (.ref 100)) (by omega) i2
    refine ⟨M, g1, g2, ?_⟩
    refine mEnds.steps 10 (q' := (63, [some (.ref 1), some (.int 6), some (.int (nI N)), some (.int v), some (.int (-4)), some (.int 0), some (.ref 92), some (.long 0), none, some (.int 1), some (.int v), o11], [.int v], hT m, 0, 0)) rfl ?_
    refine mEnds.brF (q' := (66, [some (.ref 1), some (.int 6), some (.int (nI N)), some (.int v), some (.int (-4)), some (.int 0), some (.ref 92), some (.long 0), none, some (.int 1), some (.int v), o11], [], hT m, 0, 0)) rfl f rfl ?_
    refine mEnds.steps 9 (q' := (80, [some (.ref 1), some (.int 6), some (.int (nI N)), some (.int v), some (.int (-4)), some (.int 0), some (.ref 92), some (.long 0), none, some (.int 1), some (.int v), some (.ref 100)], [.ref 92, .ref 100], hT m, 0, 0)) rfl ?_
    refine mEnds.call (d := 12) (y' := 7) (as := [.ref 100, .ref 92]) (q' := (83, [some (.ref 1), some (.int 6), some (.int (nI N)), some (.int v), some (.int (-4)), some (.int 0), some (.ref 92), some (.long 0), none, some (.int 1), some (.int v), some (.ref 100)], [], hT m, 0, 0)) (v := none) (hs' := hU6 m) (c' := 0) (s' := 0) rfl rfl (mEnds.deep (cpA6 h1 h2) 2) ?_
    show mEnds [] 13 84 (83, [some (.ref 1), some (.int 6), some (.int (nI N)), some (.int v), some (.int (-4)), some (.int 0), some (.ref 92), some (.long 0), none, some (.int 1), some (.int v), some (.ref 100)], [], hU6 m, 0, 0) _
    refine mEnds.steps 2 (q' := (87, [some (.ref 1), some (.int 6), some (.int (nI N)), some (.int v), some (.int (-4)), some (.int 0), some (.ref 92), some (.long 0), none, some (.int 1), some (.int v), some (.ref 100)], [.ref 100, .ref 100], hU6 m, 0, 0)) rfl ?_
    refine mEnds.call (d := 12) (y' := 14) (as := [.ref 100]) (q' := (90, [some (.ref 1), some (.int 6), some (.int (nI N)), some (.int v), some (.int (-4)), some (.int 0), some (.ref 92), some (.long 0), none, some (.int 1), some (.int v), some (.ref 100)], [.ref 100], hU6 m, 0, 0)) (v := some (.int 10)) (hs' := hU6 m) (c' := 0) (s' := 0) rfl rfl (mEnds.deep (skA6 h1 h2) 2) ?_
    show mEnds [] 13 84 (90, [some (.ref 1), some (.int 6), some (.int (nI N)), some (.int v), some (.int (-4)), some (.int 0), some (.ref 92), some (.long 0), none, some (.int 1), some (.int v), some (.ref 100)], [.int 10, .ref 100], hU6 m, 0, 0) _
    refine mEnds.steps 5 (q' := (101, [some (.ref 1), some (.int 6), some (.int (nI N)), some (.int v), some (.int (-4)), some (.int 0), some (.ref 92), some (.long 0), none, some (.int 1), some (.int v), some (.ref 100)], [.int 1, .int 10, .ref 100], hU6 m, 0, 0)) rfl ?_
    refine mEnds.call (d := 12) (y' := 24) (as := [.ref 100, .int 10, .int 1]) (q' := (104, [some (.ref 1), some (.int 6), some (.int (nI N)), some (.int v), some (.int (-4)), some (.int 0), some (.ref 92), some (.long 0), none, some (.int 1), some (.int v), some (.ref 100)], [], hU6 m, 0, 0)) (v := none) (hs' := hT (mx 6 m)) (c' := 0) (s' := 0) rfl rfl (mEnds.deep (paA6_1 h1 h2) 2) ?_
    show mEnds [] 13 84 (104, [some (.ref 1), some (.int 6), some (.int (nI N)), some (.int v), some (.int (-4)), some (.int 0), some (.ref 92), some (.long 0), none, some (.int 1), some (.int v), some (.ref 100)], [], hT (mx 6 m), 0, 0) _
    refine mEnds.steps 11 (q' := (119, [some (.ref 1), some (.int 6), some (.int (nI N)), some (.int v), some (.int (-4)), some (.int 0), some (.ref 92), some (.long 0), none, some (.int 1), some (.int v), some (.ref 100)], [.int 0, .int (-4), .int v, .int (nI N), .int 7, .ref 1, .long (v).toInt64, .long 0], hT (mx 6 m), 0, 0)) rfl ?_
    refine mEnds.call (d := 12) (y' := 84) (as := [.ref 1, .int 7, .int (nI N), .int v, .int (-4), .int 0]) (q' := (122, [some (.ref 1), some (.int 6), some (.int (nI N)), some (.int v), some (.int (-4)), some (.int 0), some (.ref 92), some (.long 0), none, some (.int 1), some (.int v), some (.ref 100)], [.long (v).toInt64, .long 0], hT (mx 6 m), 0, 0)) (v := some (.long 0)) (hs' := hT m1) (c' := 0) (s' := 0) rfl rfl i3 ?_
    show mEnds [] 13 84 (122, [some (.ref 1), some (.int 6), some (.int (nI N)), some (.int v), some (.int (-4)), some (.int 0), some (.ref 92), some (.long 0), none, some (.int 1), some (.int v), some (.ref 100)], [.long 0, .long (v).toInt64, .long 0], hT m1, 0, 0) _
    refine mEnds.steps 3 (q' := (126, [some (.ref 1), some (.int 6), some (.int (nI N)), some (.int v), some (.int (-4)), some (.int 0), some (.ref 92), some (.long (0 + (v).toInt64 * 0)), none, some (.int 1), some (.int v), some (.ref 100)], [], hT m1, 0, 0)) rfl ?_
    rw [lz]
    exact g3
set_option maxRecDepth 100000 in
theorem it6_0 {N m : Nat} (v : Int32) (hN : N ≤ 8) (hd : 6 < N) (h1 : 6 ≤ m) (h2 : m ≤ 8) (o10 o11 : Option Value)
    (IH : ∀ {m : Nat}, 7 ≤ m → m ≤ 8 → ∃ M, 7 ≤ M ∧ M ≤ 8 ∧ mEnds [] 12 84 (mentry 84 [.ref 1, .int 7, .int (nI N), .int v, .int (-4), .int 0] (hT m)) (some (.long 0), hT M, 0, 0))
    (K : ∀ (m : Nat) (o10 o11 : Option Value), 6 ≤ m → m ≤ 8 → ∃ M, 6 ≤ M ∧ M ≤ 8 ∧ mEnds [] 13 84 (126, [some (.ref 1), some (.int 6), some (.int (nI N)), some (.int v), some (.int (-4)), some (.int 0), some (.ref 92), some (.long 0), none, some (.int 0), o10, o11], [], hT m, 0, 0) (some (.long 0), hT M, 0, 0)) :
    ∃ M, 6 ≤ M ∧ M ≤ 8 ∧ mEnds [] 13 84 (39, [some (.ref 1), some (.int 6), some (.int (nI N)), some (.int v), some (.int (-4)), some (.int 0), some (.ref 92), some (.long 0), none, some (.int 0), o10, o11], [], hT m, 0, 0) (some (.long 0), hT M, 0, 0) := by
  cases f : decide ((10 - v) ≤ 0) with
  | true =>
    obtain ⟨M, g1, g2, g3⟩ := K m (some (.int (10 - v))) o11 h1 h2
    refine ⟨M, g1, g2, ?_⟩
    refine mEnds.steps 11 (q' := (63, [some (.ref 1), some (.int 6), some (.int (nI N)), some (.int v), some (.int (-4)), some (.int 0), some (.ref 92), some (.long 0), none, some (.int 0), some (.int (10 - v)), o11], [.int (10 - v)], hT m, 0, 0)) rfl ?_
    exact mEnds.brT (q' := (126, [some (.ref 1), some (.int 6), some (.int (nI N)), some (.int v), some (.int (-4)), some (.int 0), some (.ref 92), some (.long 0), none, some (.int 0), some (.int (10 - v)), o11], [], hT m, 0, 0)) rfl f rfl g3
  | false =>
    obtain ⟨m1, i1, i2, i3⟩ := IH (m := mx 6 m) mx_ge (mx_le (by decide) h2)
    obtain ⟨M, g1, g2, g3⟩ := K m1 (some (.int (10 - v))) (some (.ref 100)) (by omega) i2
    refine ⟨M, g1, g2, ?_⟩
    refine mEnds.steps 11 (q' := (63, [some (.ref 1), some (.int 6), some (.int (nI N)), some (.int v), some (.int (-4)), some (.int 0), some (.ref 92), some (.long 0), none, some (.int 0), some (.int (10 - v)), o11], [.int (10 - v)], hT m, 0, 0)) rfl ?_
    refine mEnds.brF (q' := (66, [some (.ref 1), some (.int 6), some (.int (nI N)), some (.int v), some (.int (-4)), some (.int 0), some (.ref 92), some (.long 0), none, some (.int 0), some (.int (10 - v)), o11], [], hT m, 0, 0)) rfl f rfl ?_
    refine mEnds.steps 9 (q' := (80, [some (.ref 1), some (.int 6), some (.int (nI N)), some (.int v), some (.int (-4)), some (.int 0), some (.ref 92), some (.long 0), none, some (.int 0), some (.int (10 - v)), some (.ref 100)], [.ref 92, .ref 100], hT m, 0, 0)) rfl ?_
    refine mEnds.call (d := 12) (y' := 7) (as := [.ref 100, .ref 92]) (q' := (83, [some (.ref 1), some (.int 6), some (.int (nI N)), some (.int v), some (.int (-4)), some (.int 0), some (.ref 92), some (.long 0), none, some (.int 0), some (.int (10 - v)), some (.ref 100)], [], hT m, 0, 0)) (v := none) (hs' := hU6 m) (c' := 0) (s' := 0) rfl rfl (mEnds.deep (cpA6 h1 h2) 2) ?_
    show mEnds [] 13 84 (83, [some (.ref 1), some (.int 6), some (.int (nI N)), some (.int v), some (.int (-4)), some (.int 0), some (.ref 92), some (.long 0), none, some (.int 0), some (.int (10 - v)), some (.ref 100)], [], hU6 m, 0, 0) _
    refine mEnds.steps 2 (q' := (87, [some (.ref 1), some (.int 6), some (.int (nI N)), some (.int v), some (.int (-4)), some (.int 0), some (.ref 92), some (.long 0), none, some (.int 0), some (.int (10 - v)), some (.ref 100)], [.ref 100, .ref 100], hU6 m, 0, 0)) rfl ?_
    refine mEnds.call (d := 12) (y' := 14) (as := [.ref 100]) (q' := (90, [some (.ref 1), some (.int 6), some (.int (nI N)), some (.int v), some (.int (-4)), some (.int 0), some (.ref 92), some (.long 0), none, some (.int 0), some (.int (10 - v)), some (.ref 100)], [.ref 100], hU6 m, 0, 0)) (v := some (.int 10)) (hs' := hU6 m) (c' := 0) (s' := 0) rfl rfl (mEnds.deep (skA6 h1 h2) 2) ?_
    show mEnds [] 13 84 (90, [some (.ref 1), some (.int 6), some (.int (nI N)), some (.int v), some (.int (-4)), some (.int 0), some (.ref 92), some (.long 0), none, some (.int 0), some (.int (10 - v)), some (.ref 100)], [.int 10, .ref 100], hU6 m, 0, 0) _
    refine mEnds.steps 4 (q' := (101, [some (.ref 1), some (.int 6), some (.int (nI N)), some (.int v), some (.int (-4)), some (.int 0), some (.ref 92), some (.long 0), none, some (.int 0), some (.int (10 - v)), some (.ref 100)], [.int 0, .int 10, .ref 100], hU6 m, 0, 0)) rfl ?_
    refine mEnds.call (d := 12) (y' := 24) (as := [.ref 100, .int 10, .int 0]) (q' := (104, [some (.ref 1), some (.int 6), some (.int (nI N)), some (.int v), some (.int (-4)), some (.int 0), some (.ref 92), some (.long 0), none, some (.int 0), some (.int (10 - v)), some (.ref 100)], [], hU6 m, 0, 0)) (v := none) (hs' := hT (mx 6 m)) (c' := 0) (s' := 0) rfl rfl (mEnds.deep (paA6_0 h1 h2) 2) ?_
    show mEnds [] 13 84 (104, [some (.ref 1), some (.int 6), some (.int (nI N)), some (.int v), some (.int (-4)), some (.int 0), some (.ref 92), some (.long 0), none, some (.int 0), some (.int (10 - v)), some (.ref 100)], [], hT (mx 6 m), 0, 0) _
    refine mEnds.steps 11 (q' := (119, [some (.ref 1), some (.int 6), some (.int (nI N)), some (.int v), some (.int (-4)), some (.int 0), some (.ref 92), some (.long 0), none, some (.int 0), some (.int (10 - v)), some (.ref 100)], [.int 0, .int (-4), .int v, .int (nI N), .int 7, .ref 1, .long ((10 - v)).toInt64, .long 0], hT (mx 6 m), 0, 0)) rfl ?_
    refine mEnds.call (d := 12) (y' := 84) (as := [.ref 1, .int 7, .int (nI N), .int v, .int (-4), .int 0]) (q' := (122, [some (.ref 1), some (.int 6), some (.int (nI N)), some (.int v), some (.int (-4)), some (.int 0), some (.ref 92), some (.long 0), none, some (.int 0), some (.int (10 - v)), some (.ref 100)], [.long ((10 - v)).toInt64, .long 0], hT (mx 6 m), 0, 0)) (v := some (.long 0)) (hs' := hT m1) (c' := 0) (s' := 0) rfl rfl i3 ?_
    show mEnds [] 13 84 (122, [some (.ref 1), some (.int 6), some (.int (nI N)), some (.int v), some (.int (-4)), some (.int 0), some (.ref 92), some (.long 0), none, some (.int 0), some (.int (10 - v)), some (.ref 100)], [.long 0, .long ((10 - v)).toInt64, .long 0], hT m1, 0, 0) _
    refine mEnds.steps 3 (q' := (126, [some (.ref 1), some (.int 6), some (.int (nI N)), some (.int v), some (.int (-4)), some (.int 0), some (.ref 92), some (.long (0 + ((10 - v)).toInt64 * 0)), none, some (.int 0), some (.int (10 - v)), some (.ref 100)], [], hT m1, 0, 0)) rfl ?_
    rw [lz]
    exact g3
set_option maxRecDepth 100000 in
theorem wg6 {N m : Nat} (v : Int32) (hN : N ≤ 8) (hd : 6 ≤ N) (h1 : 6 ≤ m) (h2 : m ≤ 8) : ∃ M, 6 ≤ M ∧ M ≤ 8 ∧ mEnds [] 13 84 (mentry 84 [.ref 1, .int 6, .int (nI N), .int v, .int (-4), .int 0] (hT m)) (some (.long 0), hT M, 0, 0) := by
  have pre : ∀ {x : Option Value × mH × Nat × Nat}, mEnds [] 13 84 (10, [some (.ref 1), some (.int 6), some (.int (nI N)), some (.int v), some (.int (-4)), some (.int 0), some (.ref 92), none, none, none, none, none], [.int (nI N), .int 6], hT m, 0, 0) x → mEnds [] 13 84 (mentry 84 [.ref 1, .int 6, .int (nI N), .int v, .int (-4), .int 0] (hT m)) x := fun k =>
    mEnds.steps 7 (q' := (10, [some (.ref 1), some (.int 6), some (.int (nI N)), some (.int v), some (.int (-4)), some (.int 0), some (.ref 92), none, none, none, none, none], [.int (nI N), .int 6], hT m, 0, 0)) rfl k
  by_cases e : N ≤ 6
  · refine ⟨m, h1, h2, pre ?_⟩
    refine mEnds.brT (q' := (21, [some (.ref 1), some (.int 6), some (.int (nI N)), some (.int v), some (.int (-4)), some (.int 0), some (.ref 92), none, none, none, none, none], [], hT m, 0, 0)) rfl (decide_eq_true (nI_le (b := 6) e (by decide))) rfl ?_
    refine mEnds.steps 4 (q' := (28, [some (.ref 1), some (.int 6), some (.int (nI N)), some (.int v), some (.int (-4)), some (.int 0), some (.ref 92), none, none, none, none, none], [.int 0, .int (-4), .ref 92, .ref 1], hT m, 0, 0)) rfl ?_
    refine mEnds.call (d := 12) (y' := 85) (as := [.ref 1, .ref 92, .int (-4), .int 0]) (q' := (31, [some (.ref 1), some (.int 6), some (.int (nI N)), some (.int v), some (.int (-4)), some (.int 0), some (.ref 92), none, none, none, none, none], [], hT m, 0, 0)) (v := some (.int 0)) (hs' := hT m) (c' := 0) (s' := 0) rfl rfl (mEnds.deep (oc6 h1 h2) 2) ?_
    show mEnds [] 13 84 (31, [some (.ref 1), some (.int 6), some (.int (nI N)), some (.int v), some (.int (-4)), some (.int 0), some (.ref 92), none, none, none, none, none], [.int 0], hT m, 0, 0) _
    refine mEnds.steps 1 (q' := (32, [some (.ref 1), some (.int 6), some (.int (nI N)), some (.int v), some (.int (-4)), some (.int 0), some (.ref 92), none, none, none, none, none], [.long 0], hT m, 0, 0)) rfl ?_
    exact mEnds.ret rfl
  · obtain ⟨M, g1, g2, g3⟩ := it6_0 (N := N) (m := m) v hN (by omega) h1 h2 none none (fun a b => wg7 v hN (by omega) a b) (fun m o10 o11 h1 h2 => by
      obtain ⟨M, g1, g2, g3⟩ := it6_1 (N := N) (m := m) v hN (by omega) h1 h2 o10 o11 (fun a b => wg7 v hN (by omega) a b) (fun m o10 o11 h1 h2 => by
        refine ⟨m, h1, h2, ?_⟩
        refine mEnds.steps 6 (q' := (134, [some (.ref 1), some (.int 6), some (.int (nI N)), some (.int v), some (.int (-4)), some (.int 0), some (.ref 92), some (.long 0), none, some (.int 2), o10, o11], [.long 0], hT m, 0, 0)) rfl ?_
        exact mEnds.ret rfl)
      refine ⟨M, g1, g2, ?_⟩
      exact mEnds.steps 2 (q' := (39, [some (.ref 1), some (.int 6), some (.int (nI N)), some (.int v), some (.int (-4)), some (.int 0), some (.ref 92), some (.long 0), none, some (.int 1), o10, o11], [], hT m, 0, 0)) rfl g3)
    refine ⟨M, g1, g2, pre ?_⟩
    refine mEnds.brF (q' := (13, [some (.ref 1), some (.int 6), some (.int (nI N)), some (.int v), some (.int (-4)), some (.int 0), some (.ref 92), none, none, none, none, none], [], hT m, 0, 0)) rfl (decide_eq_false (nI_ge (a := 6) (by omega) (by omega))) rfl ?_
    exact mEnds.steps 9 (q' := (39, [some (.ref 1), some (.int 6), some (.int (nI N)), some (.int v), some (.int (-4)), some (.int 0), some (.ref 92), some (.long 0), none, some (.int 0), none, none], [], hT m, 0, 0)) rfl g3
set_option maxRecDepth 100000 in
theorem it5_1 {N m : Nat} (v : Int32) (hN : N ≤ 8) (hd : 5 < N) (h1 : 5 ≤ m) (h2 : m ≤ 8) (o10 o11 : Option Value)
    (IH : ∀ {m : Nat}, 6 ≤ m → m ≤ 8 → ∃ M, 6 ≤ M ∧ M ≤ 8 ∧ mEnds [] 13 84 (mentry 84 [.ref 1, .int 6, .int (nI N), .int v, .int (-4), .int 0] (hT m)) (some (.long 0), hT M, 0, 0))
    (K : ∀ (m : Nat) (o10 o11 : Option Value), 5 ≤ m → m ≤ 8 → ∃ M, 5 ≤ M ∧ M ≤ 8 ∧ mEnds [] 14 84 (126, [some (.ref 1), some (.int 5), some (.int (nI N)), some (.int v), some (.int (-4)), some (.int 0), some (.ref 84), some (.long 0), none, some (.int 1), o10, o11], [], hT m, 0, 0) (some (.long 0), hT M, 0, 0)) :
    ∃ M, 5 ≤ M ∧ M ≤ 8 ∧ mEnds [] 14 84 (39, [some (.ref 1), some (.int 5), some (.int (nI N)), some (.int v), some (.int (-4)), some (.int 0), some (.ref 84), some (.long 0), none, some (.int 1), o10, o11], [], hT m, 0, 0) (some (.long 0), hT M, 0, 0) := by
  cases f : decide (v ≤ 0) with
  | true =>
    obtain ⟨M, g1, g2, g3⟩ := K m (some (.int v)) o11 h1 h2
    refine ⟨M, g1, g2, ?_⟩
    refine mEnds.steps 10 (q' := (63, [some (.ref 1), some (.int 5), some (.int (nI N)), some (.int v), some (.int (-4)), some (.int 0), some (.ref 84), some (.long 0), none, some (.int 1), some (.int v), o11], [.int v], hT m, 0, 0)) rfl ?_
    exact mEnds.brT (q' := (126, [some (.ref 1), some (.int 5), some (.int (nI N)), some (.int v), some (.int (-4)), some (.int 0), some (.ref 84), some (.long 0), none, some (.int 1), some (.int v), o11], [], hT m, 0, 0)) rfl f rfl g3
  | false =>
    obtain ⟨m1, i1, i2, i3⟩ := IH (m := mx 5 m) mx_ge (mx_le (by decide) h2)
    obtain ⟨M, g1, g2, g3⟩ := K m1 (some (.int v)) (some (.ref 92)) (by omega) i2
    refine ⟨M, g1, g2, ?_⟩
    refine mEnds.steps 10 (q' := (63, [some (.ref 1), some (.int 5), some (.int (nI N)), some (.int v), some (.int (-4)), some (.int 0), some (.ref 84), some (.long 0), none, some (.int 1), some (.int v), o11], [.int v], hT m, 0, 0)) rfl ?_
    refine mEnds.brF (q' := (66, [some (.ref 1), some (.int 5), some (.int (nI N)), some (.int v), some (.int (-4)), some (.int 0), some (.ref 84), some (.long 0), none, some (.int 1), some (.int v), o11], [], hT m, 0, 0)) rfl f rfl ?_
    refine mEnds.steps 9 (q' := (80, [some (.ref 1), some (.int 5), some (.int (nI N)), some (.int v), some (.int (-4)), some (.int 0), some (.ref 84), some (.long 0), none, some (.int 1), some (.int v), some (.ref 92)], [.ref 84, .ref 92], hT m, 0, 0)) rfl ?_
    refine mEnds.call (d := 13) (y' := 7) (as := [.ref 92, .ref 84]) (q' := (83, [some (.ref 1), some (.int 5), some (.int (nI N)), some (.int v), some (.int (-4)), some (.int 0), some (.ref 84), some (.long 0), none, some (.int 1), some (.int v), some (.ref 92)], [], hT m, 0, 0)) (v := none) (hs' := hU5 m) (c' := 0) (s' := 0) rfl rfl (mEnds.deep (cpA5 h1 h2) 3) ?_
    show mEnds [] 14 84 (83, [some (.ref 1), some (.int 5), some (.int (nI N)), some (.int v), some (.int (-4)), some (.int 0), some (.ref 84), some (.long 0), none, some (.int 1), some (.int v), some (.ref 92)], [], hU5 m, 0, 0) _
    refine mEnds.steps 2 (q' := (87, [some (.ref 1), some (.int 5), some (.int (nI N)), some (.int v), some (.int (-4)), some (.int 0), some (.ref 84), some (.long 0), none, some (.int 1), some (.int v), some (.ref 92)], [.ref 92, .ref 92], hU5 m, 0, 0)) rfl ?_
    refine mEnds.call (d := 13) (y' := 14) (as := [.ref 92]) (q' := (90, [some (.ref 1), some (.int 5), some (.int (nI N)), some (.int v), some (.int (-4)), some (.int 0), some (.ref 84), some (.long 0), none, some (.int 1), some (.int v), some (.ref 92)], [.ref 92], hU5 m, 0, 0)) (v := some (.int 10)) (hs' := hU5 m) (c' := 0) (s' := 0) rfl rfl (mEnds.deep (skA5 h1 h2) 3) ?_
    show mEnds [] 14 84 (90, [some (.ref 1), some (.int 5), some (.int (nI N)), some (.int v), some (.int (-4)), some (.int 0), some (.ref 84), some (.long 0), none, some (.int 1), some (.int v), some (.ref 92)], [.int 10, .ref 92], hU5 m, 0, 0) _
    refine mEnds.steps 5 (q' := (101, [some (.ref 1), some (.int 5), some (.int (nI N)), some (.int v), some (.int (-4)), some (.int 0), some (.ref 84), some (.long 0), none, some (.int 1), some (.int v), some (.ref 92)], [.int 1, .int 10, .ref 92], hU5 m, 0, 0)) rfl ?_
    refine mEnds.call (d := 13) (y' := 24) (as := [.ref 92, .int 10, .int 1]) (q' := (104, [some (.ref 1), some (.int 5), some (.int (nI N)), some (.int v), some (.int (-4)), some (.int 0), some (.ref 84), some (.long 0), none, some (.int 1), some (.int v), some (.ref 92)], [], hU5 m, 0, 0)) (v := none) (hs' := hT (mx 5 m)) (c' := 0) (s' := 0) rfl rfl (mEnds.deep (paA5_1 h1 h2) 3) ?_
    show mEnds [] 14 84 (104, [some (.ref 1), some (.int 5), some (.int (nI N)), some (.int v), some (.int (-4)), some (.int 0), some (.ref 84), some (.long 0), none, some (.int 1), some (.int v), some (.ref 92)], [], hT (mx 5 m), 0, 0) _
    refine mEnds.steps 11 (q' := (119, [some (.ref 1), some (.int 5), some (.int (nI N)), some (.int v), some (.int (-4)), some (.int 0), some (.ref 84), some (.long 0), none, some (.int 1), some (.int v), some (.ref 92)], [.int 0, .int (-4), .int v, .int (nI N), .int 6, .ref 1, .long (v).toInt64, .long 0], hT (mx 5 m), 0, 0)) rfl ?_
    refine mEnds.call (d := 13) (y' := 84) (as := [.ref 1, .int 6, .int (nI N), .int v, .int (-4), .int 0]) (q' := (122, [some (.ref 1), some (.int 5), some (.int (nI N)), some (.int v), some (.int (-4)), some (.int 0), some (.ref 84), some (.long 0), none, some (.int 1), some (.int v), some (.ref 92)], [.long (v).toInt64, .long 0], hT (mx 5 m), 0, 0)) (v := some (.long 0)) (hs' := hT m1) (c' := 0) (s' := 0) rfl rfl i3 ?_
    show mEnds [] 14 84 (122, [some (.ref 1), some (.int 5), some (.int (nI N)), some (.int v), some (.int (-4)), some (.int 0), some (.ref 84), some (.long 0), none, some (.int 1), some (.int v), some (.ref 92)], [.long 0, .long (v).toInt64, .long 0], hT m1, 0, 0) _
    refine mEnds.steps 3 (q' := (126, [some (.ref 1), some (.int 5), some (.int (nI N)), some (.int v), some (.int (-4)), some (.int 0), some (.ref 84), some (.long (0 + (v).toInt64 * 0)), none, some (.int 1), some (.int v), some (.ref 92)], [], hT m1, 0, 0)) rfl ?_
    rw [lz]
    exact g3
set_option maxRecDepth 100000 in
theorem it5_0 {N m : Nat} (v : Int32) (hN : N ≤ 8) (hd : 5 < N) (h1 : 5 ≤ m) (h2 : m ≤ 8) (o10 o11 : Option Value)
    (IH : ∀ {m : Nat}, 6 ≤ m → m ≤ 8 → ∃ M, 6 ≤ M ∧ M ≤ 8 ∧ mEnds [] 13 84 (mentry 84 [.ref 1, .int 6, .int (nI N), .int v, .int (-4), .int 0] (hT m)) (some (.long 0), hT M, 0, 0))
    (K : ∀ (m : Nat) (o10 o11 : Option Value), 5 ≤ m → m ≤ 8 → ∃ M, 5 ≤ M ∧ M ≤ 8 ∧ mEnds [] 14 84 (126, [some (.ref 1), some (.int 5), some (.int (nI N)), some (.int v), some (.int (-4)), some (.int 0), some (.ref 84), some (.long 0), none, some (.int 0), o10, o11], [], hT m, 0, 0) (some (.long 0), hT M, 0, 0)) :
    ∃ M, 5 ≤ M ∧ M ≤ 8 ∧ mEnds [] 14 84 (39, [some (.ref 1), some (.int 5), some (.int (nI N)), some (.int v), some (.int (-4)), some (.int 0), some (.ref 84), some (.long 0), none, some (.int 0), o10, o11], [], hT m, 0, 0) (some (.long 0), hT M, 0, 0) := by
  cases f : decide ((10 - v) ≤ 0) with
  | true =>
    obtain ⟨M, g1, g2, g3⟩ := K m (some (.int (10 - v))) o11 h1 h2
    refine ⟨M, g1, g2, ?_⟩
    refine mEnds.steps 11 (q' := (63, [some (.ref 1), some (.int 5), some (.int (nI N)), some (.int v), some (.int (-4)), some (.int 0), some (.ref 84), some (.long 0), none, some (.int 0), some (.int (10 - v)), o11], [.int (10 - v)], hT m, 0, 0)) rfl ?_
    exact mEnds.brT (q' := (126, [some (.ref 1), some (.int 5), some (.int (nI N)), some (.int v), some (.int (-4)), some (.int 0), some (.ref 84), some (.long 0), none, some (.int 0), some (.int (10 - v)), o11], [], hT m, 0, 0)) rfl f rfl g3
  | false =>
    obtain ⟨m1, i1, i2, i3⟩ := IH (m := mx 5 m) mx_ge (mx_le (by decide) h2)
    obtain ⟨M, g1, g2, g3⟩ := K m1 (some (.int (10 - v))) (some (.ref 92)) (by omega) i2
    refine ⟨M, g1, g2, ?_⟩
    refine mEnds.steps 11 (q' := (63, [some (.ref 1), some (.int 5), some (.int (nI N)), some (.int v), some (.int (-4)), some (.int 0), some (.ref 84), some (.long 0), none, some (.int 0), some (.int (10 - v)), o11], [.int (10 - v)], hT m, 0, 0)) rfl ?_
    refine mEnds.brF (q' := (66, [some (.ref 1), some (.int 5), some (.int (nI N)), some (.int v), some (.int (-4)), some (.int 0), some (.ref 84), some (.long 0), none, some (.int 0), some (.int (10 - v)), o11], [], hT m, 0, 0)) rfl f rfl ?_
    refine mEnds.steps 9 (q' := (80, [some (.ref 1), some (.int 5), some (.int (nI N)), some (.int v), some (.int (-4)), some (.int 0), some (.ref 84), some (.long 0), none, some (.int 0), some (.int (10 - v)), some (.ref 92)], [.ref 84, .ref 92], hT m, 0, 0)) rfl ?_
    refine mEnds.call (d := 13) (y' := 7) (as := [.ref 92, .ref 84]) (q' := (83, [some (.ref 1), some (.int 5), some (.int (nI N)), some (.int v), some (.int (-4)), some (.int 0), some (.ref 84), some (.long 0), none, some (.int 0), some (.int (10 - v)), some (.ref 92)], [], hT m, 0, 0)) (v := none) (hs' := hU5 m) (c' := 0) (s' := 0) rfl rfl (mEnds.deep (cpA5 h1 h2) 3) ?_
    show mEnds [] 14 84 (83, [some (.ref 1), some (.int 5), some (.int (nI N)), some (.int v), some (.int (-4)), some (.int 0), some (.ref 84), some (.long 0), none, some (.int 0), some (.int (10 - v)), some (.ref 92)], [], hU5 m, 0, 0) _
    refine mEnds.steps 2 (q' := (87, [some (.ref 1), some (.int 5), some (.int (nI N)), some (.int v), some (.int (-4)), some (.int 0), some (.ref 84), some (.long 0), none, some (.int 0), some (.int (10 - v)), some (.ref 92)], [.ref 92, .ref 92], hU5 m, 0, 0)) rfl ?_
    refine mEnds.call (d := 13) (y' := 14) (as := [.ref 92]) (q' := (90, [some (.ref 1), some (.int 5), some (.int (nI N)), some (.int v), some (.int (-4)), some (.int 0), some (.ref 84), some (.long 0), none, some (.int 0), some (.int (10 - v)), some (.ref 92)], [.ref 92], hU5 m, 0, 0)) (v := some (.int 10)) (hs' := hU5 m) (c' := 0) (s' := 0) rfl rfl (mEnds.deep (skA5 h1 h2) 3) ?_
    show mEnds [] 14 84 (90, [some (.ref 1), some (.int 5), some (.int (nI N)), some (.int v), some (.int (-4)), some (.int 0), some (.ref 84), some (.long 0), none, some (.int 0), some (.int (10 - v)), some (.ref 92)], [.int 10, .ref 92], hU5 m, 0, 0) _
    refine mEnds.steps 4 (q' := (101, [some (.ref 1), some (.int 5), some (.int (nI N)), some (.int v), some (.int (-4)), some (.int 0), some (.ref 84), some (.long 0), none, some (.int 0), some (.int (10 - v)), some (.ref 92)], [.int 0, .int 10, .ref 92], hU5 m, 0, 0)) rfl ?_
    refine mEnds.call (d := 13) (y' := 24) (as := [.ref 92, .int 10, .int 0]) (q' := (104, [some (.ref 1), some (.int 5), some (.int (nI N)), some (.int v), some (.int (-4)), some (.int 0), some (.ref 84), some (.long 0), none, some (.int 0), some (.int (10 - v)), some (.ref 92)], [], hU5 m, 0, 0)) (v := none) (hs' := hT (mx 5 m)) (c' := 0) (s' := 0) rfl rfl (mEnds.deep (paA5_0 h1 h2) 3) ?_
    show mEnds [] 14 84 (104, [some (.ref 1), some (.int 5), some (.int (nI N)), some (.int v), some (.int (-4)), some (.int 0), some (.ref 84), some (.long 0), none, some (.int 0), some (.int (10 - v)), some (.ref 92)], [], hT (mx 5 m), 0, 0) _
    refine mEnds.steps 11 (q' := (119, [some (.ref 1), some (.int 5), some (.int (nI N)), some (.int v), some (.int (-4)), some (.int 0), some (.ref 84), some (.long 0), none, some (.int 0), some (.int (10 - v)), some (.ref 92)], [.int 0, .int (-4), .int v, .int (nI N), .int 6, .ref 1, .long ((10 - v)).toInt64, .long 0], hT (mx 5 m), 0, 0)) rfl ?_
    refine mEnds.call (d := 13) (y' := 84) (as := [.ref 1, .int 6, .int (nI N), .int v, .int (-4), .int 0]) (q' := (122, [some (.ref 1), some (.int 5), some (.int (nI N)), some (.int v), some (.int (-4)), some (.int 0), some (.ref 84), some (.long 0), none, some (.int 0), some (.int (10 - v)), some (.ref 92)], [.long ((10 - v)).toInt64, .long 0], hT (mx 5 m), 0, 0)) (v := some (.long 0)) (hs' := hT m1) (c' := 0) (s' := 0) rfl rfl i3 ?_
    show mEnds [] 14 84 (122, [some (.ref 1), some (.int 5), some (.int (nI N)), some (.int v), some (.int (-4)), some (.int 0), some (.ref 84), some (.long 0), none, some (.int 0), some (.int (10 - v)), some (.ref 92)], [.long 0, .long ((10 - v)).toInt64, .long 0], hT m1, 0, 0) _
    refine mEnds.steps 3 (q' := (126, [some (.ref 1), some (.int 5), some (.int (nI N)), some (.int v), some (.int (-4)), some (.int 0), some (.ref 84), some (.long (0 + ((10 - v)).toInt64 * 0)), none, some (.int 0), some (.int (10 - v)), some (.ref 92)], [], hT m1, 0, 0)) rfl ?_
    rw [lz]
    exact g3
set_option maxRecDepth 100000 in
theorem wg5 {N m : Nat} (v : Int32) (hN : N ≤ 8) (hd : 5 ≤ N) (h1 : 5 ≤ m) (h2 : m ≤ 8) : ∃ M, 5 ≤ M ∧ M ≤ 8 ∧ mEnds [] 14 84 (mentry 84 [.ref 1, .int 5, .int (nI N), .int v, .int (-4), .int 0] (hT m)) (some (.long 0), hT M, 0, 0) := by
  have pre : ∀ {x : Option Value × mH × Nat × Nat}, mEnds [] 14 84 (10, [some (.ref 1), some (.int 5), some (.int (nI N)), some (.int v), some (.int (-4)), some (.int 0), some (.ref 84), none, none, none, none, none], [.int (nI N), .int 5], hT m, 0, 0) x → mEnds [] 14 84 (mentry 84 [.ref 1, .int 5, .int (nI N), .int v, .int (-4), .int 0] (hT m)) x := fun k =>
    mEnds.steps 7 (q' := (10, [some (.ref 1), some (.int 5), some (.int (nI N)), some (.int v), some (.int (-4)), some (.int 0), some (.ref 84), none, none, none, none, none], [.int (nI N), .int 5], hT m, 0, 0)) rfl k
  by_cases e : N ≤ 5
  · refine ⟨m, h1, h2, pre ?_⟩
    refine mEnds.brT (q' := (21, [some (.ref 1), some (.int 5), some (.int (nI N)), some (.int v), some (.int (-4)), some (.int 0), some (.ref 84), none, none, none, none, none], [], hT m, 0, 0)) rfl (decide_eq_true (nI_le (b := 5) e (by decide))) rfl ?_
    refine mEnds.steps 4 (q' := (28, [some (.ref 1), some (.int 5), some (.int (nI N)), some (.int v), some (.int (-4)), some (.int 0), some (.ref 84), none, none, none, none, none], [.int 0, .int (-4), .ref 84, .ref 1], hT m, 0, 0)) rfl ?_
    refine mEnds.call (d := 13) (y' := 85) (as := [.ref 1, .ref 84, .int (-4), .int 0]) (q' := (31, [some (.ref 1), some (.int 5), some (.int (nI N)), some (.int v), some (.int (-4)), some (.int 0), some (.ref 84), none, none, none, none, none], [], hT m, 0, 0)) (v := some (.int 0)) (hs' := hT m) (c' := 0) (s' := 0) rfl rfl (mEnds.deep (oc5 h1 h2) 3) ?_
    show mEnds [] 14 84 (31, [some (.ref 1), some (.int 5), some (.int (nI N)), some (.int v), some (.int (-4)), some (.int 0), some (.ref 84), none, none, none, none, none], [.int 0], hT m, 0, 0) _
    refine mEnds.steps 1 (q' := (32, [some (.ref 1), some (.int 5), some (.int (nI N)), some (.int v), some (.int (-4)), some (.int 0), some (.ref 84), none, none, none, none, none], [.long 0], hT m, 0, 0)) rfl ?_
    exact mEnds.ret rfl
  · obtain ⟨M, g1, g2, g3⟩ := it5_0 (N := N) (m := m) v hN (by omega) h1 h2 none none (fun a b => wg6 v hN (by omega) a b) (fun m o10 o11 h1 h2 => by
      obtain ⟨M, g1, g2, g3⟩ := it5_1 (N := N) (m := m) v hN (by omega) h1 h2 o10 o11 (fun a b => wg6 v hN (by omega) a b) (fun m o10 o11 h1 h2 => by
        refine ⟨m, h1, h2, ?_⟩
        refine mEnds.steps 6 (q' := (134, [some (.ref 1), some (.int 5), some (.int (nI N)), some (.int v), some (.int (-4)), some (.int 0), some (.ref 84), some (.long 0), none, some (.int 2), o10, o11], [.long 0], hT m, 0, 0)) rfl ?_
        exact mEnds.ret rfl)
      refine ⟨M, g1, g2, ?_⟩
      exact mEnds.steps 2 (q' := (39, [some (.ref 1), some (.int 5), some (.int (nI N)), some (.int v), some (.int (-4)), some (.int 0), some (.ref 84), some (.long 0), none, some (.int 1), o10, o11], [], hT m, 0, 0)) rfl g3)
    refine ⟨M, g1, g2, pre ?_⟩
    refine mEnds.brF (q' := (13, [some (.ref 1), some (.int 5), some (.int (nI N)), some (.int v), some (.int (-4)), some (.int 0), some (.ref 84), none, none, none, none, none], [], hT m, 0, 0)) rfl (decide_eq_false (nI_ge (a := 5) (by omega) (by omega))) rfl ?_
    exact mEnds.steps 9 (q' := (39, [some (.ref 1), some (.int 5), some (.int (nI N)), some (.int v), some (.int (-4)), some (.int 0), some (.ref 84), some (.long 0), none, some (.int 0), none, none], [], hT m, 0, 0)) rfl g3
set_option maxRecDepth 100000 in
theorem it4_1 {N m : Nat} (v : Int32) (hN : N ≤ 8) (hd : 4 < N) (h1 : 4 ≤ m) (h2 : m ≤ 8) (o10 o11 : Option Value)
    (IH : ∀ {m : Nat}, 5 ≤ m → m ≤ 8 → ∃ M, 5 ≤ M ∧ M ≤ 8 ∧ mEnds [] 14 84 (mentry 84 [.ref 1, .int 5, .int (nI N), .int v, .int (-4), .int 0] (hT m)) (some (.long 0), hT M, 0, 0))
    (K : ∀ (m : Nat) (o10 o11 : Option Value), 4 ≤ m → m ≤ 8 → ∃ M, 4 ≤ M ∧ M ≤ 8 ∧ mEnds [] 15 84 (126, [some (.ref 1), some (.int 4), some (.int (nI N)), some (.int v), some (.int (-4)), some (.int 0), some (.ref 76), some (.long 0), none, some (.int 1), o10, o11], [], hT m, 0, 0) (some (.long 0), hT M, 0, 0)) :
    ∃ M, 4 ≤ M ∧ M ≤ 8 ∧ mEnds [] 15 84 (39, [some (.ref 1), some (.int 4), some (.int (nI N)), some (.int v), some (.int (-4)), some (.int 0), some (.ref 76), some (.long 0), none, some (.int 1), o10, o11], [], hT m, 0, 0) (some (.long 0), hT M, 0, 0) := by
  cases f : decide (v ≤ 0) with
  | true =>
    obtain ⟨M, g1, g2, g3⟩ := K m (some (.int v)) o11 h1 h2
    refine ⟨M, g1, g2, ?_⟩
    refine mEnds.steps 10 (q' := (63, [some (.ref 1), some (.int 4), some (.int (nI N)), some (.int v), some (.int (-4)), some (.int 0), some (.ref 76), some (.long 0), none, some (.int 1), some (.int v), o11], [.int v], hT m, 0, 0)) rfl ?_
    exact mEnds.brT (q' := (126, [some (.ref 1), some (.int 4), some (.int (nI N)), some (.int v), some (.int (-4)), some (.int 0), some (.ref 76), some (.long 0), none, some (.int 1), some (.int v), o11], [], hT m, 0, 0)) rfl f rfl g3
  | false =>
    obtain ⟨m1, i1, i2, i3⟩ := IH (m := mx 4 m) mx_ge (mx_le (by decide) h2)
    obtain ⟨M, g1, g2, g3⟩ := K m1 (some (.int v)) (some (.ref 84)) (by omega) i2
    refine ⟨M, g1, g2, ?_⟩
    refine mEnds.steps 10 (q' := (63, [some (.ref 1), some (.int 4), some (.int (nI N)), some (.int v), some (.int (-4)), some (.int 0), some (.ref 76), some (.long 0), none, some (.int 1), some (.int v), o11], [.int v], hT m, 0, 0)) rfl ?_
    refine mEnds.brF (q' := (66, [some (.ref 1), some (.int 4), some (.int (nI N)), some (.int v), some (.int (-4)), some (.int 0), some (.ref 76), some (.long 0), none, some (.int 1), some (.int v), o11], [], hT m, 0, 0)) rfl f rfl ?_
    refine mEnds.steps 9 (q' := (80, [some (.ref 1), some (.int 4), some (.int (nI N)), some (.int v), some (.int (-4)), some (.int 0), some (.ref 76), some (.long 0), none, some (.int 1), some (.int v), some (.ref 84)], [.ref 76, .ref 84], hT m, 0, 0)) rfl ?_
    refine mEnds.call (d := 14) (y' := 7) (as := [.ref 84, .ref 76]) (q' := (83, [some (.ref 1), some (.int 4), some (.int (nI N)), some (.int v), some (.int (-4)), some (.int 0), some (.ref 76), some (.long 0), none, some (.int 1), some (.int v), some (.ref 84)], [], hT m, 0, 0)) (v := none) (hs' := hU4 m) (c' := 0) (s' := 0) rfl rfl (mEnds.deep (cpA4 h1 h2) 4) ?_
    show mEnds [] 15 84 (83, [some (.ref 1), some (.int 4), some (.int (nI N)), some (.int v), some (.int (-4)), some (.int 0), some (.ref 76), some (.long 0), none, some (.int 1), some (.int v), some (.ref 84)], [], hU4 m, 0, 0) _
    refine mEnds.steps 2 (q' := (87, [some (.ref 1), some (.int 4), some (.int (nI N)), some (.int v), some (.int (-4)), some (.int 0), some (.ref 76), some (.long 0), none, some (.int 1), some (.int v), some (.ref 84)], [.ref 84, .ref 84], hU4 m, 0, 0)) rfl ?_
    refine mEnds.call (d := 14) (y' := 14) (as := [.ref 84]) (q' := (90, [some (.ref 1), some (.int 4), some (.int (nI N)), some (.int v), some (.int (-4)), some (.int 0), some (.ref 76), some (.long 0), none, some (.int 1), some (.int v), some (.ref 84)], [.ref 84], hU4 m, 0, 0)) (v := some (.int 10)) (hs' := hU4 m) (c' := 0) (s' := 0) rfl rfl (mEnds.deep (skA4 h1 h2) 4) ?_
    show mEnds [] 15 84 (90, [some (.ref 1), some (.int 4), some (.int (nI N)), some (.int v), some (.int (-4)), some (.int 0), some (.ref 76), some (.long 0), none, some (.int 1), some (.int v), some (.ref 84)], [.int 10, .ref 84], hU4 m, 0, 0) _
    refine mEnds.steps 5 (q' := (101, [some (.ref 1), some (.int 4), some (.int (nI N)), some (.int v), some (.int (-4)), some (.int 0), some (.ref 76), some (.long 0), none, some (.int 1), some (.int v), some (.ref 84)], [.int 1, .int 10, .ref 84], hU4 m, 0, 0)) rfl ?_
    refine mEnds.call (d := 14) (y' := 24) (as := [.ref 84, .int 10, .int 1]) (q' := (104, [some (.ref 1), some (.int 4), some (.int (nI N)), some (.int v), some (.int (-4)), some (.int 0), some (.ref 76), some (.long 0), none, some (.int 1), some (.int v), some (.ref 84)], [], hU4 m, 0, 0)) (v := none) (hs' := hT (mx 4 m)) (c' := 0) (s' := 0) rfl rfl (mEnds.deep (paA4_1 h1 h2) 4) ?_
    show mEnds [] 15 84 (104, [some (.ref 1), some (.int 4), some (.int (nI N)), some (.int v), some (.int (-4)), some (.int 0), some (.ref 76), some (.long 0), none, some (.int 1), some (.int v), some (.ref 84)], [], hT (mx 4 m), 0, 0) _
    refine mEnds.steps 11 (q' := (119, [some (.ref 1), some (.int 4), some (.int (nI N)), some (.int v), some (.int (-4)), some (.int 0), some (.ref 76), some (.long 0), none, some (.int 1), some (.int v), some (.ref 84)], [.int 0, .int (-4), .int v, .int (nI N), .int 5, .ref 1, .long (v).toInt64, .long 0], hT (mx 4 m), 0, 0)) rfl ?_
    refine mEnds.call (d := 14) (y' := 84) (as := [.ref 1, .int 5, .int (nI N), .int v, .int (-4), .int 0]) (q' := (122, [some (.ref 1), some (.int 4), some (.int (nI N)), some (.int v), some (.int (-4)), some (.int 0), some (.ref 76), some (.long 0), none, some (.int 1), some (.int v), some (.ref 84)], [.long (v).toInt64, .long 0], hT (mx 4 m), 0, 0)) (v := some (.long 0)) (hs' := hT m1) (c' := 0) (s' := 0) rfl rfl i3 ?_
    show mEnds [] 15 84 (122, [some (.ref 1), some (.int 4), some (.int (nI N)), some (.int v), some (.int (-4)), some (.int 0), some (.ref 76), some (.long 0), none, some (.int 1), some (.int v), some (.ref 84)], [.long 0, .long (v).toInt64, .long 0], hT m1, 0, 0) _
    refine mEnds.steps 3 (q' := (126, [some (.ref 1), some (.int 4), some (.int (nI N)), some (.int v), some (.int (-4)), some (.int 0), some (.ref 76), some (.long (0 + (v).toInt64 * 0)), none, some (.int 1), some (.int v), some (.ref 84)], [], hT m1, 0, 0)) rfl ?_
    rw [lz]
    exact g3
set_option maxRecDepth 100000 in
theorem it4_0 {N m : Nat} (v : Int32) (hN : N ≤ 8) (hd : 4 < N) (h1 : 4 ≤ m) (h2 : m ≤ 8) (o10 o11 : Option Value)
    (IH : ∀ {m : Nat}, 5 ≤ m → m ≤ 8 → ∃ M, 5 ≤ M ∧ M ≤ 8 ∧ mEnds [] 14 84 (mentry 84 [.ref 1, .int 5, .int (nI N), .int v, .int (-4), .int 0] (hT m)) (some (.long 0), hT M, 0, 0))
    (K : ∀ (m : Nat) (o10 o11 : Option Value), 4 ≤ m → m ≤ 8 → ∃ M, 4 ≤ M ∧ M ≤ 8 ∧ mEnds [] 15 84 (126, [some (.ref 1), some (.int 4), some (.int (nI N)), some (.int v), some (.int (-4)), some (.int 0), some (.ref 76), some (.long 0), none, some (.int 0), o10, o11], [], hT m, 0, 0) (some (.long 0), hT M, 0, 0)) :
    ∃ M, 4 ≤ M ∧ M ≤ 8 ∧ mEnds [] 15 84 (39, [some (.ref 1), some (.int 4), some (.int (nI N)), some (.int v), some (.int (-4)), some (.int 0), some (.ref 76), some (.long 0), none, some (.int 0), o10, o11], [], hT m, 0, 0) (some (.long 0), hT M, 0, 0) := by
  cases f : decide ((10 - v) ≤ 0) with
  | true =>
    obtain ⟨M, g1, g2, g3⟩ := K m (some (.int (10 - v))) o11 h1 h2
    refine ⟨M, g1, g2, ?_⟩
    refine mEnds.steps 11 (q' := (63, [some (.ref 1), some (.int 4), some (.int (nI N)), some (.int v), some (.int (-4)), some (.int 0), some (.ref 76), some (.long 0), none, some (.int 0), some (.int (10 - v)), o11], [.int (10 - v)], hT m, 0, 0)) rfl ?_
    exact mEnds.brT (q' := (126, [some (.ref 1), some (.int 4), some (.int (nI N)), some (.int v), some (.int (-4)), some (.int 0), some (.ref 76), some (.long 0), none, some (.int 0), some (.int (10 - v)), o11], [], hT m, 0, 0)) rfl f rfl g3
  | false =>
    obtain ⟨m1, i1, i2, i3⟩ := IH (m := mx 4 m) mx_ge (mx_le (by decide) h2)
    obtain ⟨M, g1, g2, g3⟩ := K m1 (some (.int (10 - v))) (some (.ref 84)) (by omega) i2
    refine ⟨M, g1, g2, ?_⟩
    refine mEnds.steps 11 (q' := (63, [some (.ref 1), some (.int 4), some (.int (nI N)), some (.int v), some (.int (-4)), some (.int 0), some (.ref 76), some (.long 0), none, some (.int 0), some (.int (10 - v)), o11], [.int (10 - v)], hT m, 0, 0)) rfl ?_
    refine mEnds.brF (q' := (66, [some (.ref 1), some (.int 4), some (.int (nI N)), some (.int v), some (.int (-4)), some (.int 0), some (.ref 76), some (.long 0), none, some (.int 0), some (.int (10 - v)), o11], [], hT m, 0, 0)) rfl f rfl ?_
    refine mEnds.steps 9 (q' := (80, [some (.ref 1), some (.int 4), some (.int (nI N)), some (.int v), some (.int (-4)), some (.int 0), some (.ref 76), some (.long 0), none, some (.int 0), some (.int (10 - v)), some (.ref 84)], [.ref 76, .ref 84], hT m, 0, 0)) rfl ?_
    refine mEnds.call (d := 14) (y' := 7) (as := [.ref 84, .ref 76]) (q' := (83, [some (.ref 1), some (.int 4), some (.int (nI N)), some (.int v), some (.int (-4)), some (.int 0), some (.ref 76), some (.long 0), none, some (.int 0), some (.int (10 - v)), some (.ref 84)], [], hT m, 0, 0)) (v := none) (hs' := hU4 m) (c' := 0) (s' := 0) rfl rfl (mEnds.deep (cpA4 h1 h2) 4) ?_
    show mEnds [] 15 84 (83, [some (.ref 1), some (.int 4), some (.int (nI N)), some (.int v), some (.int (-4)), some (.int 0), some (.ref 76), some (.long 0), none, some (.int 0), some (.int (10 - v)), some (.ref 84)], [], hU4 m, 0, 0) _
    refine mEnds.steps 2 (q' := (87, [some (.ref 1), some (.int 4), some (.int (nI N)), some (.int v), some (.int (-4)), some (.int 0), some (.ref 76), some (.long 0), none, some (.int 0), some (.int (10 - v)), some (.ref 84)], [.ref 84, .ref 84], hU4 m, 0, 0)) rfl ?_
    refine mEnds.call (d := 14) (y' := 14) (as := [.ref 84]) (q' := (90, [some (.ref 1), some (.int 4), some (.int (nI N)), some (.int v), some (.int (-4)), some (.int 0), some (.ref 76), some (.long 0), none, some (.int 0), some (.int (10 - v)), some (.ref 84)], [.ref 84], hU4 m, 0, 0)) (v := some (.int 10)) (hs' := hU4 m) (c' := 0) (s' := 0) rfl rfl (mEnds.deep (skA4 h1 h2) 4) ?_
    show mEnds [] 15 84 (90, [some (.ref 1), some (.int 4), some (.int (nI N)), some (.int v), some (.int (-4)), some (.int 0), some (.ref 76), some (.long 0), none, some (.int 0), some (.int (10 - v)), some (.ref 84)], [.int 10, .ref 84], hU4 m, 0, 0) _
    refine mEnds.steps 4 (q' := (101, [some (.ref 1), some (.int 4), some (.int (nI N)), some (.int v), some (.int (-4)), some (.int 0), some (.ref 76), some (.long 0), none, some (.int 0), some (.int (10 - v)), some (.ref 84)], [.int 0, .int 10, .ref 84], hU4 m, 0, 0)) rfl ?_
    refine mEnds.call (d := 14) (y' := 24) (as := [.ref 84, .int 10, .int 0]) (q' := (104, [some (.ref 1), some (.int 4), some (.int (nI N)), some (.int v), some (.int (-4)), some (.int 0), some (.ref 76), some (.long 0), none, some (.int 0), some (.int (10 - v)), some (.ref 84)], [], hU4 m, 0, 0)) (v := none) (hs' := hT (mx 4 m)) (c' := 0) (s' := 0) rfl rfl (mEnds.deep (paA4_0 h1 h2) 4) ?_
    show mEnds [] 15 84 (104, [some (.ref 1), some (.int 4), some (.int (nI N)), some (.int v), some (.int (-4)), some (.int 0), some (.ref 76), some (.long 0), none, some (.int 0), some (.int (10 - v)), some (.ref 84)], [], hT (mx 4 m), 0, 0) _
    refine mEnds.steps 11 (q' := (119, [some (.ref 1), some (.int 4), some (.int (nI N)), some (.int v), some (.int (-4)), some (.int 0), some (.ref 76), some (.long 0), none, some (.int 0), some (.int (10 - v)), some (.ref 84)], [.int 0, .int (-4), .int v, .int (nI N), .int 5, .ref 1, .long ((10 - v)).toInt64, .long 0], hT (mx 4 m), 0, 0)) rfl ?_
    refine mEnds.call (d := 14) (y' := 84) (as := [.ref 1, .int 5, .int (nI N), .int v, .int (-4), .int 0]) (q' := (122, [some (.ref 1), some (.int 4), some (.int (nI N)), some (.int v), some (.int (-4)), some (.int 0), some (.ref 76), some (.long 0), none, some (.int 0), some (.int (10 - v)), some (.ref 84)], [.long ((10 - v)).toInt64, .long 0], hT (mx 4 m), 0, 0)) (v := some (.long 0)) (hs' := hT m1) (c' := 0) (s' := 0) rfl rfl i3 ?_
    show mEnds [] 15 84 (122, [some (.ref 1), some (.int 4), some (.int (nI N)), some (.int v), some (.int (-4)), some (.int 0), some (.ref 76), some (.long 0), none, some (.int 0), some (.int (10 - v)), some (.ref 84)], [.long 0, .long ((10 - v)).toInt64, .long 0], hT m1, 0, 0) _
    refine mEnds.steps 3 (q' := (126, [some (.ref 1), some (.int 4), some (.int (nI N)), some (.int v), some (.int (-4)), some (.int 0), some (.ref 76), some (.long (0 + ((10 - v)).toInt64 * 0)), none, some (.int 0), some (.int (10 - v)), some (.ref 84)], [], hT m1, 0, 0)) rfl ?_
    rw [lz]
    exact g3
set_option maxRecDepth 100000 in
theorem wg4 {N m : Nat} (v : Int32) (hN : N ≤ 8) (hd : 4 ≤ N) (h1 : 4 ≤ m) (h2 : m ≤ 8) : ∃ M, 4 ≤ M ∧ M ≤ 8 ∧ mEnds [] 15 84 (mentry 84 [.ref 1, .int 4, .int (nI N), .int v, .int (-4), .int 0] (hT m)) (some (.long 0), hT M, 0, 0) := by
  have pre : ∀ {x : Option Value × mH × Nat × Nat}, mEnds [] 15 84 (10, [some (.ref 1), some (.int 4), some (.int (nI N)), some (.int v), some (.int (-4)), some (.int 0), some (.ref 76), none, none, none, none, none], [.int (nI N), .int 4], hT m, 0, 0) x → mEnds [] 15 84 (mentry 84 [.ref 1, .int 4, .int (nI N), .int v, .int (-4), .int 0] (hT m)) x := fun k =>
    mEnds.steps 7 (q' := (10, [some (.ref 1), some (.int 4), some (.int (nI N)), some (.int v), some (.int (-4)), some (.int 0), some (.ref 76), none, none, none, none, none], [.int (nI N), .int 4], hT m, 0, 0)) rfl k
  by_cases e : N ≤ 4
  · refine ⟨m, h1, h2, pre ?_⟩
    refine mEnds.brT (q' := (21, [some (.ref 1), some (.int 4), some (.int (nI N)), some (.int v), some (.int (-4)), some (.int 0), some (.ref 76), none, none, none, none, none], [], hT m, 0, 0)) rfl (decide_eq_true (nI_le (b := 4) e (by decide))) rfl ?_
    refine mEnds.steps 4 (q' := (28, [some (.ref 1), some (.int 4), some (.int (nI N)), some (.int v), some (.int (-4)), some (.int 0), some (.ref 76), none, none, none, none, none], [.int 0, .int (-4), .ref 76, .ref 1], hT m, 0, 0)) rfl ?_
    refine mEnds.call (d := 14) (y' := 85) (as := [.ref 1, .ref 76, .int (-4), .int 0]) (q' := (31, [some (.ref 1), some (.int 4), some (.int (nI N)), some (.int v), some (.int (-4)), some (.int 0), some (.ref 76), none, none, none, none, none], [], hT m, 0, 0)) (v := some (.int 0)) (hs' := hT m) (c' := 0) (s' := 0) rfl rfl (mEnds.deep (oc4 h1 h2) 4) ?_
    show mEnds [] 15 84 (31, [some (.ref 1), some (.int 4), some (.int (nI N)), some (.int v), some (.int (-4)), some (.int 0), some (.ref 76), none, none, none, none, none], [.int 0], hT m, 0, 0) _
    refine mEnds.steps 1 (q' := (32, [some (.ref 1), some (.int 4), some (.int (nI N)), some (.int v), some (.int (-4)), some (.int 0), some (.ref 76), none, none, none, none, none], [.long 0], hT m, 0, 0)) rfl ?_
    exact mEnds.ret rfl
  · obtain ⟨M, g1, g2, g3⟩ := it4_0 (N := N) (m := m) v hN (by omega) h1 h2 none none (fun a b => wg5 v hN (by omega) a b) (fun m o10 o11 h1 h2 => by
      obtain ⟨M, g1, g2, g3⟩ := it4_1 (N := N) (m := m) v hN (by omega) h1 h2 o10 o11 (fun a b => wg5 v hN (by omega) a b) (fun m o10 o11 h1 h2 => by
        refine ⟨m, h1, h2, ?_⟩
        refine mEnds.steps 6 (q' := (134, [some (.ref 1), some (.int 4), some (.int (nI N)), some (.int v), some (.int (-4)), some (.int 0), some (.ref 76), some (.long 0), none, some (.int 2), o10, o11], [.long 0], hT m, 0, 0)) rfl ?_
        exact mEnds.ret rfl)
      refine ⟨M, g1, g2, ?_⟩
      exact mEnds.steps 2 (q' := (39, [some (.ref 1), some (.int 4), some (.int (nI N)), some (.int v), some (.int (-4)), some (.int 0), some (.ref 76), some (.long 0), none, some (.int 1), o10, o11], [], hT m, 0, 0)) rfl g3)
    refine ⟨M, g1, g2, pre ?_⟩
    refine mEnds.brF (q' := (13, [some (.ref 1), some (.int 4), some (.int (nI N)), some (.int v), some (.int (-4)), some (.int 0), some (.ref 76), none, none, none, none, none], [], hT m, 0, 0)) rfl (decide_eq_false (nI_ge (a := 4) (by omega) (by omega))) rfl ?_
    exact mEnds.steps 9 (q' := (39, [some (.ref 1), some (.int 4), some (.int (nI N)), some (.int v), some (.int (-4)), some (.int 0), some (.ref 76), some (.long 0), none, some (.int 0), none, none], [], hT m, 0, 0)) rfl g3
set_option maxRecDepth 100000 in
theorem it3_1 {N m : Nat} (v : Int32) (hN : N ≤ 8) (hd : 3 < N) (h1 : 3 ≤ m) (h2 : m ≤ 8) (o10 o11 : Option Value)
    (IH : ∀ {m : Nat}, 4 ≤ m → m ≤ 8 → ∃ M, 4 ≤ M ∧ M ≤ 8 ∧ mEnds [] 15 84 (mentry 84 [.ref 1, .int 4, .int (nI N), .int v, .int (-4), .int 0] (hT m)) (some (.long 0), hT M, 0, 0))
    (K : ∀ (m : Nat) (o10 o11 : Option Value), 3 ≤ m → m ≤ 8 → ∃ M, 3 ≤ M ∧ M ≤ 8 ∧ mEnds [] 16 84 (126, [some (.ref 1), some (.int 3), some (.int (nI N)), some (.int v), some (.int (-4)), some (.int 0), some (.ref 68), some (.long 0), none, some (.int 1), o10, o11], [], hT m, 0, 0) (some (.long 0), hT M, 0, 0)) :
    ∃ M, 3 ≤ M ∧ M ≤ 8 ∧ mEnds [] 16 84 (39, [some (.ref 1), some (.int 3), some (.int (nI N)), some (.int v), some (.int (-4)), some (.int 0), some (.ref 68), some (.long 0), none, some (.int 1), o10, o11], [], hT m, 0, 0) (some (.long 0), hT M, 0, 0) := by
  cases f : decide (v ≤ 0) with
  | true =>
    obtain ⟨M, g1, g2, g3⟩ := K m (some (.int v)) o11 h1 h2
    refine ⟨M, g1, g2, ?_⟩
    refine mEnds.steps 10 (q' := (63, [some (.ref 1), some (.int 3), some (.int (nI N)), some (.int v), some (.int (-4)), some (.int 0), some (.ref 68), some (.long 0), none, some (.int 1), some (.int v), o11], [.int v], hT m, 0, 0)) rfl ?_
    exact mEnds.brT (q' := (126, [some (.ref 1), some (.int 3), some (.int (nI N)), some (.int v), some (.int (-4)), some (.int 0), some (.ref 68), some (.long 0), none, some (.int 1), some (.int v), o11], [], hT m, 0, 0)) rfl f rfl g3
  | false =>
    obtain ⟨m1, i1, i2, i3⟩ := IH (m := mx 3 m) mx_ge (mx_le (by decide) h2)
    obtain ⟨M, g1, g2, g3⟩ := K m1 (some (.int v)) (some (.ref 76)) (by omega) i2
    refine ⟨M, g1, g2, ?_⟩
    refine mEnds.steps 10 (q' := (63, [some (.ref 1), some (.int 3), some (.int (nI N)), some (.int v), some (.int (-4)), some (.int 0), some (.ref 68), some (.long 0), none, some (.int 1), some (.int v), o11], [.int v], hT m, 0, 0)) rfl ?_
    refine mEnds.brF (q' := (66, [some (.ref 1), some (.int 3), some (.int (nI N)), some (.int v), some (.int (-4)), some (.int 0), some (.ref 68), some (.long 0), none, some (.int 1), some (.int v), o11], [], hT m, 0, 0)) rfl f rfl ?_
    refine mEnds.steps 9 (q' := (80, [some (.ref 1), some (.int 3), some (.int (nI N)), some (.int v), some (.int (-4)), some (.int 0), some (.ref 68), some (.long 0), none, some (.int 1), some (.int v), some (.ref 76)], [.ref 68, .ref 76], hT m, 0, 0)) rfl ?_
    refine mEnds.call (d := 15) (y' := 7) (as := [.ref 76, .ref 68]) (q' := (83, [some (.ref 1), some (.int 3), some (.int (nI N)), some (.int v), some (.int (-4)), some (.int 0), some (.ref 68), some (.long 0), none, some (.int 1), some (.int v), some (.ref 76)], [], hT m, 0, 0)) (v := none) (hs' := hU3 m) (c' := 0) (s' := 0) rfl rfl (mEnds.deep (cpA3 h1 h2) 5) ?_
    show mEnds [] 16 84 (83, [some (.ref 1), some (.int 3), some (.int (nI N)), some (.int v), some (.int (-4)), some (.int 0), some (.ref 68), some (.long 0), none, some (.int 1), some (.int v), some (.ref 76)], [], hU3 m, 0, 0) _
    refine mEnds.steps 2 (q' := (87, [some (.ref 1), some (.int 3), some (.int (nI N)), some (.int v), some (.int (-4)), some (.int 0), some (.ref 68), some (.long 0), none, some (.int 1), some (.int v), some (.ref 76)], [.ref 76, .ref 76], hU3 m, 0, 0)) rfl ?_
    refine mEnds.call (d := 15) (y' := 14) (as := [.ref 76]) (q' := (90, [some (.ref 1), some (.int 3), some (.int (nI N)), some (.int v), some (.int (-4)), some (.int 0), some (.ref 68), some (.long 0), none, some (.int 1), some (.int v), some (.ref 76)], [.ref 76], hU3 m, 0, 0)) (v := some (.int 10)) (hs' := hU3 m) (c' := 0) (s' := 0) rfl rfl (mEnds.deep (skA3 h1 h2) 5) ?_
    show mEnds [] 16 84 (90, [some (.ref 1), some (.int 3), some (.int (nI N)), some (.int v), some (.int (-4)), some (.int 0), some (.ref 68), some (.long 0), none, some (.int 1), some (.int v), some (.ref 76)], [.int 10, .ref 76], hU3 m, 0, 0) _
    refine mEnds.steps 5 (q' := (101, [some (.ref 1), some (.int 3), some (.int (nI N)), some (.int v), some (.int (-4)), some (.int 0), some (.ref 68), some (.long 0), none, some (.int 1), some (.int v), some (.ref 76)], [.int 1, .int 10, .ref 76], hU3 m, 0, 0)) rfl ?_
    refine mEnds.call (d := 15) (y' := 24) (as := [.ref 76, .int 10, .int 1]) (q' := (104, [some (.ref 1), some (.int 3), some (.int (nI N)), some (.int v), some (.int (-4)), some (.int 0), some (.ref 68), some (.long 0), none, some (.int 1), some (.int v), some (.ref 76)], [], hU3 m, 0, 0)) (v := none) (hs' := hT (mx 3 m)) (c' := 0) (s' := 0) rfl rfl (mEnds.deep (paA3_1 h1 h2) 5) ?_
    show mEnds [] 16 84 (104, [some (.ref 1), some (.int 3), some (.int (nI N)), some (.int v), some (.int (-4)), some (.int 0), some (.ref 68), some (.long 0), none, some (.int 1), some (.int v), some (.ref 76)], [], hT (mx 3 m), 0, 0) _
    refine mEnds.steps 11 (q' := (119, [some (.ref 1), some (.int 3), some (.int (nI N)), some (.int v), some (.int (-4)), some (.int 0), some (.ref 68), some (.long 0), none, some (.int 1), some (.int v), some (.ref 76)], [.int 0, .int (-4), .int v, .int (nI N), .int 4, .ref 1, .long (v).toInt64, .long 0], hT (mx 3 m), 0, 0)) rfl ?_
    refine mEnds.call (d := 15) (y' := 84) (as := [.ref 1, .int 4, .int (nI N), .int v, .int (-4), .int 0]) (q' := (122, [some (.ref 1), some (.int 3), some (.int (nI N)), some (.int v), some (.int (-4)), some (.int 0), some (.ref 68), some (.long 0), none, some (.int 1), some (.int v), some (.ref 76)], [.long (v).toInt64, .long 0], hT (mx 3 m), 0, 0)) (v := some (.long 0)) (hs' := hT m1) (c' := 0) (s' := 0) rfl rfl i3 ?_
    show mEnds [] 16 84 (122, [some (.ref 1), some (.int 3), some (.int (nI N)), some (.int v), some (.int (-4)), some (.int 0), some (.ref 68), some (.long 0), none, some (.int 1), some (.int v), some (.ref 76)], [.long 0, .long (v).toInt64, .long 0], hT m1, 0, 0) _
    refine mEnds.steps 3 (q' := (126, [some (.ref 1), some (.int 3), some (.int (nI N)), some (.int v), some (.int (-4)), some (.int 0), some (.ref 68), some (.long (0 + (v).toInt64 * 0)), none, some (.int 1), some (.int v), some (.ref 76)], [], hT m1, 0, 0)) rfl ?_
    rw [lz]
    exact g3
set_option maxRecDepth 100000 in
theorem it3_0 {N m : Nat} (v : Int32) (hN : N ≤ 8) (hd : 3 < N) (h1 : 3 ≤ m) (h2 : m ≤ 8) (o10 o11 : Option Value)
    (IH : ∀ {m : Nat}, 4 ≤ m → m ≤ 8 → ∃ M, 4 ≤ M ∧ M ≤ 8 ∧ mEnds [] 15 84 (mentry 84 [.ref 1, .int 4, .int (nI N), .int v, .int (-4), .int 0] (hT m)) (some (.long 0), hT M, 0, 0))
    (K : ∀ (m : Nat) (o10 o11 : Option Value), 3 ≤ m → m ≤ 8 → ∃ M, 3 ≤ M ∧ M ≤ 8 ∧ mEnds [] 16 84 (126, [some (.ref 1), some (.int 3), some (.int (nI N)), some (.int v), some (.int (-4)), some (.int 0), some (.ref 68), some (.long 0), none, some (.int 0), o10, o11], [], hT m, 0, 0) (some (.long 0), hT M, 0, 0)) :
    ∃ M, 3 ≤ M ∧ M ≤ 8 ∧ mEnds [] 16 84 (39, [some (.ref 1), some (.int 3), some (.int (nI N)), some (.int v), some (.int (-4)), some (.int 0), some (.ref 68), some (.long 0), none, some (.int 0), o10, o11], [], hT m, 0, 0) (some (.long 0), hT M, 0, 0) := by
  cases f : decide ((10 - v) ≤ 0) with
  | true =>
    obtain ⟨M, g1, g2, g3⟩ := K m (some (.int (10 - v))) o11 h1 h2
    refine ⟨M, g1, g2, ?_⟩
    refine mEnds.steps 11 (q' := (63, [some (.ref 1), some (.int 3), some (.int (nI N)), some (.int v), some (.int (-4)), some (.int 0), some (.ref 68), some (.long 0), none, some (.int 0), some (.int (10 - v)), o11], [.int (10 - v)], hT m, 0, 0)) rfl ?_
    exact mEnds.brT (q' := (126, [some (.ref 1), some (.int 3), some (.int (nI N)), some (.int v), some (.int (-4)), some (.int 0), some (.ref 68), some (.long 0), none, some (.int 0), some (.int (10 - v)), o11], [], hT m, 0, 0)) rfl f rfl g3
  | false =>
    obtain ⟨m1, i1, i2, i3⟩ := IH (m := mx 3 m) mx_ge (mx_le (by decide) h2)
    obtain ⟨M, g1, g2, g3⟩ := K m1 (some (.int (10 - v))) (some (.ref 76)) (by omega) i2
    refine ⟨M, g1, g2, ?_⟩
    refine mEnds.steps 11 (q' := (63, [some (.ref 1), some (.int 3), some (.int (nI N)), some (.int v), some (.int (-4)), some (.int 0), some (.ref 68), some (.long 0), none, some (.int 0), some (.int (10 - v)), o11], [.int (10 - v)], hT m, 0, 0)) rfl ?_
    refine mEnds.brF (q' := (66, [some (.ref 1), some (.int 3), some (.int (nI N)), some (.int v), some (.int (-4)), some (.int 0), some (.ref 68), some (.long 0), none, some (.int 0), some (.int (10 - v)), o11], [], hT m, 0, 0)) rfl f rfl ?_
    refine mEnds.steps 9 (q' := (80, [some (.ref 1), some (.int 3), some (.int (nI N)), some (.int v), some (.int (-4)), some (.int 0), some (.ref 68), some (.long 0), none, some (.int 0), some (.int (10 - v)), some (.ref 76)], [.ref 68, .ref 76], hT m, 0, 0)) rfl ?_
    refine mEnds.call (d := 15) (y' := 7) (as := [.ref 76, .ref 68]) (q' := (83, [some (.ref 1), some (.int 3), some (.int (nI N)), some (.int v), some (.int (-4)), some (.int 0), some (.ref 68), some (.long 0), none, some (.int 0), some (.int (10 - v)), some (.ref 76)], [], hT m, 0, 0)) (v := none) (hs' := hU3 m) (c' := 0) (s' := 0) rfl rfl (mEnds.deep (cpA3 h1 h2) 5) ?_
    show mEnds [] 16 84 (83, [some (.ref 1), some (.int 3), some (.int (nI N)), some (.int v), some (.int (-4)), some (.int 0), some (.ref 68), some (.long 0), none, some (.int 0), some (.int (10 - v)), some (.ref 76)], [], hU3 m, 0, 0) _
    refine mEnds.steps 2 (q' := (87, [some (.ref 1), some (.int 3), some (.int (nI N)), some (.int v), some (.int (-4)), some (.int 0), some (.ref 68), some (.long 0), none, some (.int 0), some (.int (10 - v)), some (.ref 76)], [.ref 76, .ref 76], hU3 m, 0, 0)) rfl ?_
    refine mEnds.call (d := 15) (y' := 14) (as := [.ref 76]) (q' := (90, [some (.ref 1), some (.int 3), some (.int (nI N)), some (.int v), some (.int (-4)), some (.int 0), some (.ref 68), some (.long 0), none, some (.int 0), some (.int (10 - v)), some (.ref 76)], [.ref 76], hU3 m, 0, 0)) (v := some (.int 10)) (hs' := hU3 m) (c' := 0) (s' := 0) rfl rfl (mEnds.deep (skA3 h1 h2) 5) ?_
    show mEnds [] 16 84 (90, [some (.ref 1), some (.int 3), some (.int (nI N)), some (.int v), some (.int (-4)), some (.int 0), some (.ref 68), some (.long 0), none, some (.int 0), some (.int (10 - v)), some (.ref 76)], [.int 10, .ref 76], hU3 m, 0, 0) _
    refine mEnds.steps 4 (q' := (101, [some (.ref 1), some (.int 3), some (.int (nI N)), some (.int v), some (.int (-4)), some (.int 0), some (.ref 68), some (.long 0), none, some (.int 0), some (.int (10 - v)), some (.ref 76)], [.int 0, .int 10, .ref 76], hU3 m, 0, 0)) rfl ?_
    refine mEnds.call (d := 15) (y' := 24) (as := [.ref 76, .int 10, .int 0]) (q' := (104, [some (.ref 1), some (.int 3), some (.int (nI N)), some (.int v), some (.int (-4)), some (.int 0), some (.ref 68), some (.long 0), none, some (.int 0), some (.int (10 - v)), some (.ref 76)], [], hU3 m, 0, 0)) (v := none) (hs' := hT (mx 3 m)) (c' := 0) (s' := 0) rfl rfl (mEnds.deep (paA3_0 h1 h2) 5) ?_
    show mEnds [] 16 84 (104, [some (.ref 1), some (.int 3), some (.int (nI N)), some (.int v), some (.int (-4)), some (.int 0), some (.ref 68), some (.long 0), none, some (.int 0), some (.int (10 - v)), some (.ref 76)], [], hT (mx 3 m), 0, 0) _
    refine mEnds.steps 11 (q' := (119, [some (.ref 1), some (.int 3), some (.int (nI N)), some (.int v), some (.int (-4)), some (.int 0), some (.ref 68), some (.long 0), none, some (.int 0), some (.int (10 - v)), some (.ref 76)], [.int 0, .int (-4), .int v, .int (nI N), .int 4, .ref 1, .long ((10 - v)).toInt64, .long 0], hT (mx 3 m), 0, 0)) rfl ?_
    refine mEnds.call (d := 15) (y' := 84) (as := [.ref 1, .int 4, .int (nI N), .int v, .int (-4), .int 0]) (q' := (122, [some (.ref 1), some (.int 3), some (.int (nI N)), some (.int v), some (.int (-4)), some (.int 0), some (.ref 68), some (.long 0), none, some (.int 0), some (.int (10 - v)), some (.ref 76)], [.long ((10 - v)).toInt64, .long 0], hT (mx 3 m), 0, 0)) (v := some (.long 0)) (hs' := hT m1) (c' := 0) (s' := 0) rfl rfl i3 ?_
    show mEnds [] 16 84 (122, [some (.ref 1), some (.int 3), some (.int (nI N)), some (.int v), some (.int (-4)), some (.int 0), some (.ref 68), some (.long 0), none, some (.int 0), some (.int (10 - v)), some (.ref 76)], [.long 0, .long ((10 - v)).toInt64, .long 0], hT m1, 0, 0) _
    refine mEnds.steps 3 (q' := (126, [some (.ref 1), some (.int 3), some (.int (nI N)), some (.int v), some (.int (-4)), some (.int 0), some (.ref 68), some (.long (0 + ((10 - v)).toInt64 * 0)), none, some (.int 0), some (.int (10 - v)), some (.ref 76)], [], hT m1, 0, 0)) rfl ?_
    rw [lz]
    exact g3
set_option maxRecDepth 100000 in
theorem wg3 {N m : Nat} (v : Int32) (hN : N ≤ 8) (hd : 3 ≤ N) (h1 : 3 ≤ m) (h2 : m ≤ 8) : ∃ M, 3 ≤ M ∧ M ≤ 8 ∧ mEnds [] 16 84 (mentry 84 [.ref 1, .int 3, .int (nI N), .int v, .int (-4), .int 0] (hT m)) (some (.long 0), hT M, 0, 0) := by
  have pre : ∀ {x : Option Value × mH × Nat × Nat}, mEnds [] 16 84 (10, [some (.ref 1), some (.int 3), some (.int (nI N)), some (.int v), some (.int (-4)), some (.int 0), some (.ref 68), none, none, none, none, none], [.int (nI N), .int 3], hT m, 0, 0) x → mEnds [] 16 84 (mentry 84 [.ref 1, .int 3, .int (nI N), .int v, .int (-4), .int 0] (hT m)) x := fun k =>
    mEnds.steps 7 (q' := (10, [some (.ref 1), some (.int 3), some (.int (nI N)), some (.int v), some (.int (-4)), some (.int 0), some (.ref 68), none, none, none, none, none], [.int (nI N), .int 3], hT m, 0, 0)) rfl k
  by_cases e : N ≤ 3
  · refine ⟨m, h1, h2, pre ?_⟩
    refine mEnds.brT (q' := (21, [some (.ref 1), some (.int 3), some (.int (nI N)), some (.int v), some (.int (-4)), some (.int 0), some (.ref 68), none, none, none, none, none], [], hT m, 0, 0)) rfl (decide_eq_true (nI_le (b := 3) e (by decide))) rfl ?_
    refine mEnds.steps 4 (q' := (28, [some (.ref 1), some (.int 3), some (.int (nI N)), some (.int v), some (.int (-4)), some (.int 0), some (.ref 68), none, none, none, none, none], [.int 0, .int (-4), .ref 68, .ref 1], hT m, 0, 0)) rfl ?_
    refine mEnds.call (d := 15) (y' := 85) (as := [.ref 1, .ref 68, .int (-4), .int 0]) (q' := (31, [some (.ref 1), some (.int 3), some (.int (nI N)), some (.int v), some (.int (-4)), some (.int 0), some (.ref 68), none, none, none, none, none], [], hT m, 0, 0)) (v := some (.int 0)) (hs' := hT m) (c' := 0) (s' := 0) rfl rfl (mEnds.deep (oc3 h1 h2) 5) ?_
    show mEnds [] 16 84 (31, [some (.ref 1), some (.int 3), some (.int (nI N)), some (.int v), some (.int (-4)), some (.int 0), some (.ref 68), none, none, none, none, none], [.int 0], hT m, 0, 0) _
    refine mEnds.steps 1 (q' := (32, [some (.ref 1), some (.int 3), some (.int (nI N)), some (.int v), some (.int (-4)), some (.int 0), some (.ref 68), none, none, none, none, none], [.long 0], hT m, 0, 0)) rfl ?_
    exact mEnds.ret rfl
  · obtain ⟨M, g1, g2, g3⟩ := it3_0 (N := N) (m := m) v hN (by omega) h1 h2 none none (fun a b => wg4 v hN (by omega) a b) (fun m o10 o11 h1 h2 => by
      obtain ⟨M, g1, g2, g3⟩ := it3_1 (N := N) (m := m) v hN (by omega) h1 h2 o10 o11 (fun a b => wg4 v hN (by omega) a b) (fun m o10 o11 h1 h2 => by
        refine ⟨m, h1, h2, ?_⟩
        refine mEnds.steps 6 (q' := (134, [some (.ref 1), some (.int 3), some (.int (nI N)), some (.int v), some (.int (-4)), some (.int 0), some (.ref 68), some (.long 0), none, some (.int 2), o10, o11], [.long 0], hT m, 0, 0)) rfl ?_
        exact mEnds.ret rfl)
      refine ⟨M, g1, g2, ?_⟩
      exact mEnds.steps 2 (q' := (39, [some (.ref 1), some (.int 3), some (.int (nI N)), some (.int v), some (.int (-4)), some (.int 0), some (.ref 68), some (.long 0), none, some (.int 1), o10, o11], [], hT m, 0, 0)) rfl g3)
    refine ⟨M, g1, g2, pre ?_⟩
    refine mEnds.brF (q' := (13, [some (.ref 1), some (.int 3), some (.int (nI N)), some (.int v), some (.int (-4)), some (.int 0), some (.ref 68), none, none, none, none, none], [], hT m, 0, 0)) rfl (decide_eq_false (nI_ge (a := 3) (by omega) (by omega))) rfl ?_
    exact mEnds.steps 9 (q' := (39, [some (.ref 1), some (.int 3), some (.int (nI N)), some (.int v), some (.int (-4)), some (.int 0), some (.ref 68), some (.long 0), none, some (.int 0), none, none], [], hT m, 0, 0)) rfl g3
set_option maxRecDepth 100000 in
theorem it2_1 {N m : Nat} (v : Int32) (hN : N ≤ 8) (hd : 2 < N) (h1 : 2 ≤ m) (h2 : m ≤ 8) (o10 o11 : Option Value)
    (IH : ∀ {m : Nat}, 3 ≤ m → m ≤ 8 → ∃ M, 3 ≤ M ∧ M ≤ 8 ∧ mEnds [] 16 84 (mentry 84 [.ref 1, .int 3, .int (nI N), .int v, .int (-4), .int 0] (hT m)) (some (.long 0), hT M, 0, 0))
    (K : ∀ (m : Nat) (o10 o11 : Option Value), 2 ≤ m → m ≤ 8 → ∃ M, 2 ≤ M ∧ M ≤ 8 ∧ mEnds [] 17 84 (126, [some (.ref 1), some (.int 2), some (.int (nI N)), some (.int v), some (.int (-4)), some (.int 0), some (.ref 60), some (.long 0), none, some (.int 1), o10, o11], [], hT m, 0, 0) (some (.long 0), hT M, 0, 0)) :
    ∃ M, 2 ≤ M ∧ M ≤ 8 ∧ mEnds [] 17 84 (39, [some (.ref 1), some (.int 2), some (.int (nI N)), some (.int v), some (.int (-4)), some (.int 0), some (.ref 60), some (.long 0), none, some (.int 1), o10, o11], [], hT m, 0, 0) (some (.long 0), hT M, 0, 0) := by
  cases f : decide (v ≤ 0) with
  | true =>
    obtain ⟨M, g1, g2, g3⟩ := K m (some (.int v)) o11 h1 h2
    refine ⟨M, g1, g2, ?_⟩
    refine mEnds.steps 10 (q' := (63, [some (.ref 1), some (.int 2), some (.int (nI N)), some (.int v), some (.int (-4)), some (.int 0), some (.ref 60), some (.long 0), none, some (.int 1), some (.int v), o11], [.int v], hT m, 0, 0)) rfl ?_
    exact mEnds.brT (q' := (126, [some (.ref 1), some (.int 2), some (.int (nI N)), some (.int v), some (.int (-4)), some (.int 0), some (.ref 60), some (.long 0), none, some (.int 1), some (.int v), o11], [], hT m, 0, 0)) rfl f rfl g3
  | false =>
    obtain ⟨m1, i1, i2, i3⟩ := IH (m := mx 2 m) mx_ge (mx_le (by decide) h2)
    obtain ⟨M, g1, g2, g3⟩ := K m1 (some (.int v)) (some (.ref 68)) (by omega) i2
    refine ⟨M, g1, g2, ?_⟩
    refine mEnds.steps 10 (q' := (63, [some (.ref 1), some (.int 2), some (.int (nI N)), some (.int v), some (.int (-4)), some (.int 0), some (.ref 60), some (.long 0), none, some (.int 1), some (.int v), o11], [.int v], hT m, 0, 0)) rfl ?_
    refine mEnds.brF (q' := (66, [some (.ref 1), some (.int 2), some (.int (nI N)), some (.int v), some (.int (-4)), some (.int 0), some (.ref 60), some (.long 0), none, some (.int 1), some (.int v), o11], [], hT m, 0, 0)) rfl f rfl ?_
    refine mEnds.steps 9 (q' := (80, [some (.ref 1), some (.int 2), some (.int (nI N)), some (.int v), some (.int (-4)), some (.int 0), some (.ref 60), some (.long 0), none, some (.int 1), some (.int v), some (.ref 68)], [.ref 60, .ref 68], hT m, 0, 0)) rfl ?_
    refine mEnds.call (d := 16) (y' := 7) (as := [.ref 68, .ref 60]) (q' := (83, [some (.ref 1), some (.int 2), some (.int (nI N)), some (.int v), some (.int (-4)), some (.int 0), some (.ref 60), some (.long 0), none, some (.int 1), some (.int v), some (.ref 68)], [], hT m, 0, 0)) (v := none) (hs' := hU2 m) (c' := 0) (s' := 0) rfl rfl (mEnds.deep (cpA2 h1 h2) 6) ?_
    show mEnds [] 17 84 (83, [some (.ref 1), some (.int 2), some (.int (nI N)), some (.int v), some (.int (-4)), some (.int 0), some (.ref 60), some (.long 0), none, some (.int 1), some (.int v), some (.ref 68)], [], hU2 m, 0, 0) _
    refine mEnds.steps 2 (q' := (87, [some (.ref 1), some (.int 2), some (.int (nI N)), some (.int v), some (.int (-4)), some (.int 0), some (.ref 60), some (.long 0), none, some (.int 1), some (.int v), some (.ref 68)], [.ref 68, .ref 68], hU2 m, 0, 0)) rfl ?_
    refine mEnds.call (d := 16) (y' := 14) (as := [.ref 68]) (q' := (90, [some (.ref 1), some (.int 2), some (.int (nI N)), some (.int v), some (.int (-4)), some (.int 0), some (.ref 60), some (.long 0), none, some (.int 1), some (.int v), some (.ref 68)], [.ref 68], hU2 m, 0, 0)) (v := some (.int 10)) (hs' := hU2 m) (c' := 0) (s' := 0) rfl rfl (mEnds.deep (skA2 h1 h2) 6) ?_
    show mEnds [] 17 84 (90, [some (.ref 1), some (.int 2), some (.int (nI N)), some (.int v), some (.int (-4)), some (.int 0), some (.ref 60), some (.long 0), none, some (.int 1), some (.int v), some (.ref 68)], [.int 10, .ref 68], hU2 m, 0, 0) _
    refine mEnds.steps 5 (q' := (101, [some (.ref 1), some (.int 2), some (.int (nI N)), some (.int v), some (.int (-4)), some (.int 0), some (.ref 60), some (.long 0), none, some (.int 1), some (.int v), some (.ref 68)], [.int 1, .int 10, .ref 68], hU2 m, 0, 0)) rfl ?_
    refine mEnds.call (d := 16) (y' := 24) (as := [.ref 68, .int 10, .int 1]) (q' := (104, [some (.ref 1), some (.int 2), some (.int (nI N)), some (.int v), some (.int (-4)), some (.int 0), some (.ref 60), some (.long 0), none, some (.int 1), some (.int v), some (.ref 68)], [], hU2 m, 0, 0)) (v := none) (hs' := hT (mx 2 m)) (c' := 0) (s' := 0) rfl rfl (mEnds.deep (paA2_1 h1 h2) 6) ?_
    show mEnds [] 17 84 (104, [some (.ref 1), some (.int 2), some (.int (nI N)), some (.int v), some (.int (-4)), some (.int 0), some (.ref 60), some (.long 0), none, some (.int 1), some (.int v), some (.ref 68)], [], hT (mx 2 m), 0, 0) _
    refine mEnds.steps 11 (q' := (119, [some (.ref 1), some (.int 2), some (.int (nI N)), some (.int v), some (.int (-4)), some (.int 0), some (.ref 60), some (.long 0), none, some (.int 1), some (.int v), some (.ref 68)], [.int 0, .int (-4), .int v, .int (nI N), .int 3, .ref 1, .long (v).toInt64, .long 0], hT (mx 2 m), 0, 0)) rfl ?_
    refine mEnds.call (d := 16) (y' := 84) (as := [.ref 1, .int 3, .int (nI N), .int v, .int (-4), .int 0]) (q' := (122, [some (.ref 1), some (.int 2), some (.int (nI N)), some (.int v), some (.int (-4)), some (.int 0), some (.ref 60), some (.long 0), none, some (.int 1), some (.int v), some (.ref 68)], [.long (v).toInt64, .long 0], hT (mx 2 m), 0, 0)) (v := some (.long 0)) (hs' := hT m1) (c' := 0) (s' := 0) rfl rfl i3 ?_
    show mEnds [] 17 84 (122, [some (.ref 1), some (.int 2), some (.int (nI N)), some (.int v), some (.int (-4)), some (.int 0), some (.ref 60), some (.long 0), none, some (.int 1), some (.int v), some (.ref 68)], [.long 0, .long (v).toInt64, .long 0], hT m1, 0, 0) _
    refine mEnds.steps 3 (q' := (126, [some (.ref 1), some (.int 2), some (.int (nI N)), some (.int v), some (.int (-4)), some (.int 0), some (.ref 60), some (.long (0 + (v).toInt64 * 0)), none, some (.int 1), some (.int v), some (.ref 68)], [], hT m1, 0, 0)) rfl ?_
    rw [lz]
    exact g3
set_option maxRecDepth 100000 in
theorem it2_0 {N m : Nat} (v : Int32) (hN : N ≤ 8) (hd : 2 < N) (h1 : 2 ≤ m) (h2 : m ≤ 8) (o10 o11 : Option Value)
    (IH : ∀ {m : Nat}, 3 ≤ m → m ≤ 8 → ∃ M, 3 ≤ M ∧ M ≤ 8 ∧ mEnds [] 16 84 (mentry 84 [.ref 1, .int 3, .int (nI N), .int v, .int (-4), .int 0] (hT m)) (some (.long 0), hT M, 0, 0))
    (K : ∀ (m : Nat) (o10 o11 : Option Value), 2 ≤ m → m ≤ 8 → ∃ M, 2 ≤ M ∧ M ≤ 8 ∧ mEnds [] 17 84 (126, [some (.ref 1), some (.int 2), some (.int (nI N)), some (.int v), some (.int (-4)), some (.int 0), some (.ref 60), some (.long 0), none, some (.int 0), o10, o11], [], hT m, 0, 0) (some (.long 0), hT M, 0, 0)) :
    ∃ M, 2 ≤ M ∧ M ≤ 8 ∧ mEnds [] 17 84 (39, [some (.ref 1), some (.int 2), some (.int (nI N)), some (.int v), some (.int (-4)), some (.int 0), some (.ref 60), some (.long 0), none, some (.int 0), o10, o11], [], hT m, 0, 0) (some (.long 0), hT M, 0, 0) := by
  cases f : decide ((10 - v) ≤ 0) with
  | true =>
    obtain ⟨M, g1, g2, g3⟩ := K m (some (.int (10 - v))) o11 h1 h2
    refine ⟨M, g1, g2, ?_⟩
    refine mEnds.steps 11 (q' := (63, [some (.ref 1), some (.int 2), some (.int (nI N)), some (.int v), some (.int (-4)), some (.int 0), some (.ref 60), some (.long 0), none, some (.int 0), some (.int (10 - v)), o11], [.int (10 - v)], hT m, 0, 0)) rfl ?_
    exact mEnds.brT (q' := (126, [some (.ref 1), some (.int 2), some (.int (nI N)), some (.int v), some (.int (-4)), some (.int 0), some (.ref 60), some (.long 0), none, some (.int 0), some (.int (10 - v)), o11], [], hT m, 0, 0)) rfl f rfl g3
  | false =>
    obtain ⟨m1, i1, i2, i3⟩ := IH (m := mx 2 m) mx_ge (mx_le (by decide) h2)
    obtain ⟨M, g1, g2, g3⟩ := K m1 (some (.int (10 - v))) (some (.ref 68)) (by omega) i2
    refine ⟨M, g1, g2, ?_⟩
    refine mEnds.steps 11 (q' := (63, [some (.ref 1), some (.int 2), some (.int (nI N)), some (.int v), some (.int (-4)), some (.int 0), some (.ref 60), some (.long 0), none, some (.int 0), some (.int (10 - v)), o11], [.int (10 - v)], hT m, 0, 0)) rfl ?_
    refine mEnds.brF (q' := (66, [some (.ref 1), some (.int 2), some (.int (nI N)), some (.int v), some (.int (-4)), some (.int 0), some (.ref 60), some (.long 0), none, some (.int 0), some (.int (10 - v)), o11], [], hT m, 0, 0)) rfl f rfl ?_
    refine mEnds.steps 9 (q' := (80, [some (.ref 1), some (.int 2), some (.int (nI N)), some (.int v), some (.int (-4)), some (.int 0), some (.ref 60), some (.long 0), none, some (.int 0), some (.int (10 - v)), some (.ref 68)], [.ref 60, .ref 68], hT m, 0, 0)) rfl ?_
    refine mEnds.call (d := 16) (y' := 7) (as := [.ref 68, .ref 60]) (q' := (83, [some (.ref 1), some (.int 2), some (.int (nI N)), some (.int v), some (.int (-4)), some (.int 0), some (.ref 60), some (.long 0), none, some (.int 0), some (.int (10 - v)), some (.ref 68)], [], hT m, 0, 0)) (v := none) (hs' := hU2 m) (c' := 0) (s' := 0) rfl rfl (mEnds.deep (cpA2 h1 h2) 6) ?_
    show mEnds [] 17 84 (83, [some (.ref 1), some (.int 2), some (.int (nI N)), some (.int v), some (.int (-4)), some (.int 0), some (.ref 60), some (.long 0), none, some (.int 0), some (.int (10 - v)), some (.ref 68)], [], hU2 m, 0, 0) _
    refine mEnds.steps 2 (q' := (87, [some (.ref 1), some (.int 2), some (.int (nI N)), some (.int v), some (.int (-4)), some (.int 0), some (.ref 60), some (.long 0), none, some (.int 0), some (.int (10 - v)), some (.ref 68)], [.ref 68, .ref 68], hU2 m, 0, 0)) rfl ?_
    refine mEnds.call (d := 16) (y' := 14) (as := [.ref 68]) (q' := (90, [some (.ref 1), some (.int 2), some (.int (nI N)), some (.int v), some (.int (-4)), some (.int 0), some (.ref 60), some (.long 0), none, some (.int 0), some (.int (10 - v)), some (.ref 68)], [.ref 68], hU2 m, 0, 0)) (v := some (.int 10)) (hs' := hU2 m) (c' := 0) (s' := 0) rfl rfl (mEnds.deep (skA2 h1 h2) 6) ?_
    show mEnds [] 17 84 (90, [some (.ref 1), some (.int 2), some (.int (nI N)), some (.int v), some (.int (-4)), some (.int 0), some (.ref 60), some (.long 0), none, some (.int 0), some (.int (10 - v)), some (.ref 68)], [.int 10, .ref 68], hU2 m, 0, 0) _
    refine mEnds.steps 4 (q' := (101, [some (.ref 1), some (.int 2), some (.int (nI N)), some (.int v), some (.int (-4)), some (.int 0), some (.ref 60), some (.long 0), none, some (.int 0), some (.int (10 - v)), some (.ref 68)], [.int 0, .int 10, .ref 68], hU2 m, 0, 0)) rfl ?_
    refine mEnds.call (d := 16) (y' := 24) (as := [.ref 68, .int 10, .int 0]) (q' := (104, [some (.ref 1), some (.int 2), some (.int (nI N)), some (.int v), some (.int (-4)), some (.int 0), some (.ref 60), some (.long 0), none, some (.int 0), some (.int (10 - v)), some (.ref 68)], [], hU2 m, 0, 0)) (v := none) (hs' := hT (mx 2 m)) (c' := 0) (s' := 0) rfl rfl (mEnds.deep (paA2_0 h1 h2) 6) ?_
    show mEnds [] 17 84 (104, [some (.ref 1), some (.int 2), some (.int (nI N)), some (.int v), some (.int (-4)), some (.int 0), some (.ref 60), some (.long 0), none, some (.int 0), some (.int (10 - v)), some (.ref 68)], [], hT (mx 2 m), 0, 0) _
    refine mEnds.steps 11 (q' := (119, [some (.ref 1), some (.int 2), some (.int (nI N)), some (.int v), some (.int (-4)), some (.int 0), some (.ref 60), some (.long 0), none, some (.int 0), some (.int (10 - v)), some (.ref 68)], [.int 0, .int (-4), .int v, .int (nI N), .int 3, .ref 1, .long ((10 - v)).toInt64, .long 0], hT (mx 2 m), 0, 0)) rfl ?_
    refine mEnds.call (d := 16) (y' := 84) (as := [.ref 1, .int 3, .int (nI N), .int v, .int (-4), .int 0]) (q' := (122, [some (.ref 1), some (.int 2), some (.int (nI N)), some (.int v), some (.int (-4)), some (.int 0), some (.ref 60), some (.long 0), none, some (.int 0), some (.int (10 - v)), some (.ref 68)], [.long ((10 - v)).toInt64, .long 0], hT (mx 2 m), 0, 0)) (v := some (.long 0)) (hs' := hT m1) (c' := 0) (s' := 0) rfl rfl i3 ?_
    show mEnds [] 17 84 (122, [some (.ref 1), some (.int 2), some (.int (nI N)), some (.int v), some (.int (-4)), some (.int 0), some (.ref 60), some (.long 0), none, some (.int 0), some (.int (10 - v)), some (.ref 68)], [.long 0, .long ((10 - v)).toInt64, .long 0], hT m1, 0, 0) _
    refine mEnds.steps 3 (q' := (126, [some (.ref 1), some (.int 2), some (.int (nI N)), some (.int v), some (.int (-4)), some (.int 0), some (.ref 60), some (.long (0 + ((10 - v)).toInt64 * 0)), none, some (.int 0), some (.int (10 - v)), some (.ref 68)], [], hT m1, 0, 0)) rfl ?_
    rw [lz]
    exact g3
set_option maxRecDepth 100000 in
theorem wg2 {N m : Nat} (v : Int32) (hN : N ≤ 8) (hd : 2 ≤ N) (h1 : 2 ≤ m) (h2 : m ≤ 8) : ∃ M, 2 ≤ M ∧ M ≤ 8 ∧ mEnds [] 17 84 (mentry 84 [.ref 1, .int 2, .int (nI N), .int v, .int (-4), .int 0] (hT m)) (some (.long 0), hT M, 0, 0) := by
  have pre : ∀ {x : Option Value × mH × Nat × Nat}, mEnds [] 17 84 (10, [some (.ref 1), some (.int 2), some (.int (nI N)), some (.int v), some (.int (-4)), some (.int 0), some (.ref 60), none, none, none, none, none], [.int (nI N), .int 2], hT m, 0, 0) x → mEnds [] 17 84 (mentry 84 [.ref 1, .int 2, .int (nI N), .int v, .int (-4), .int 0] (hT m)) x := fun k =>
    mEnds.steps 7 (q' := (10, [some (.ref 1), some (.int 2), some (.int (nI N)), some (.int v), some (.int (-4)), some (.int 0), some (.ref 60), none, none, none, none, none], [.int (nI N), .int 2], hT m, 0, 0)) rfl k
  by_cases e : N ≤ 2
  · refine ⟨m, h1, h2, pre ?_⟩
    refine mEnds.brT (q' := (21, [some (.ref 1), some (.int 2), some (.int (nI N)), some (.int v), some (.int (-4)), some (.int 0), some (.ref 60), none, none, none, none, none], [], hT m, 0, 0)) rfl (decide_eq_true (nI_le (b := 2) e (by decide))) rfl ?_
    refine mEnds.steps 4 (q' := (28, [some (.ref 1), some (.int 2), some (.int (nI N)), some (.int v), some (.int (-4)), some (.int 0), some (.ref 60), none, none, none, none, none], [.int 0, .int (-4), .ref 60, .ref 1], hT m, 0, 0)) rfl ?_
    refine mEnds.call (d := 16) (y' := 85) (as := [.ref 1, .ref 60, .int (-4), .int 0]) (q' := (31, [some (.ref 1), some (.int 2), some (.int (nI N)), some (.int v), some (.int (-4)), some (.int 0), some (.ref 60), none, none, none, none, none], [], hT m, 0, 0)) (v := some (.int 0)) (hs' := hT m) (c' := 0) (s' := 0) rfl rfl (mEnds.deep (oc2 h1 h2) 6) ?_
    show mEnds [] 17 84 (31, [some (.ref 1), some (.int 2), some (.int (nI N)), some (.int v), some (.int (-4)), some (.int 0), some (.ref 60), none, none, none, none, none], [.int 0], hT m, 0, 0) _
    refine mEnds.steps 1 (q' := (32, [some (.ref 1), some (.int 2), some (.int (nI N)), some (.int v), some (.int (-4)), some (.int 0), some (.ref 60), none, none, none, none, none], [.long 0], hT m, 0, 0)) rfl ?_
    exact mEnds.ret rfl
  · obtain ⟨M, g1, g2, g3⟩ := it2_0 (N := N) (m := m) v hN (by omega) h1 h2 none none (fun a b => wg3 v hN (by omega) a b) (fun m o10 o11 h1 h2 => by
      obtain ⟨M, g1, g2, g3⟩ := it2_1 (N := N) (m := m) v hN (by omega) h1 h2 o10 o11 (fun a b => wg3 v hN (by omega) a b) (fun m o10 o11 h1 h2 => by
        refine ⟨m, h1, h2, ?_⟩
        refine mEnds.steps 6 (q' := (134, [some (.ref 1), some (.int 2), some (.int (nI N)), some (.int v), some (.int (-4)), some (.int 0), some (.ref 60), some (.long 0), none, some (.int 2), o10, o11], [.long 0], hT m, 0, 0)) rfl ?_
        exact mEnds.ret rfl)
      refine ⟨M, g1, g2, ?_⟩
      exact mEnds.steps 2 (q' := (39, [some (.ref 1), some (.int 2), some (.int (nI N)), some (.int v), some (.int (-4)), some (.int 0), some (.ref 60), some (.long 0), none, some (.int 1), o10, o11], [], hT m, 0, 0)) rfl g3)
    refine ⟨M, g1, g2, pre ?_⟩
    refine mEnds.brF (q' := (13, [some (.ref 1), some (.int 2), some (.int (nI N)), some (.int v), some (.int (-4)), some (.int 0), some (.ref 60), none, none, none, none, none], [], hT m, 0, 0)) rfl (decide_eq_false (nI_ge (a := 2) (by omega) (by omega))) rfl ?_
    exact mEnds.steps 9 (q' := (39, [some (.ref 1), some (.int 2), some (.int (nI N)), some (.int v), some (.int (-4)), some (.int 0), some (.ref 60), some (.long 0), none, some (.int 0), none, none], [], hT m, 0, 0)) rfl g3
set_option maxRecDepth 100000 in
theorem it1_1 {N m : Nat} (v : Int32) (hN : N ≤ 8) (hd : 1 < N) (h1 : 1 ≤ m) (h2 : m ≤ 8) (o10 o11 : Option Value)
    (IH : ∀ {m : Nat}, 2 ≤ m → m ≤ 8 → ∃ M, 2 ≤ M ∧ M ≤ 8 ∧ mEnds [] 17 84 (mentry 84 [.ref 1, .int 2, .int (nI N), .int v, .int (-4), .int 0] (hT m)) (some (.long 0), hT M, 0, 0))
    (K : ∀ (m : Nat) (o10 o11 : Option Value), 1 ≤ m → m ≤ 8 → ∃ M, 1 ≤ M ∧ M ≤ 8 ∧ mEnds [] 18 84 (126, [some (.ref 1), some (.int 1), some (.int (nI N)), some (.int v), some (.int (-4)), some (.int 0), some (.ref 52), some (.long 0), none, some (.int 1), o10, o11], [], hT m, 0, 0) (some (.long 0), hT M, 0, 0)) :
    ∃ M, 1 ≤ M ∧ M ≤ 8 ∧ mEnds [] 18 84 (39, [some (.ref 1), some (.int 1), some (.int (nI N)), some (.int v), some (.int (-4)), some (.int 0), some (.ref 52), some (.long 0), none, some (.int 1), o10, o11], [], hT m, 0, 0) (some (.long 0), hT M, 0, 0) := by
  cases f : decide (v ≤ 0) with
  | true =>
    obtain ⟨M, g1, g2, g3⟩ := K m (some (.int v)) o11 h1 h2
    refine ⟨M, g1, g2, ?_⟩
    refine mEnds.steps 10 (q' := (63, [some (.ref 1), some (.int 1), some (.int (nI N)), some (.int v), some (.int (-4)), some (.int 0), some (.ref 52), some (.long 0), none, some (.int 1), some (.int v), o11], [.int v], hT m, 0, 0)) rfl ?_
    exact mEnds.brT (q' := (126, [some (.ref 1), some (.int 1), some (.int (nI N)), some (.int v), some (.int (-4)), some (.int 0), some (.ref 52), some (.long 0), none, some (.int 1), some (.int v), o11], [], hT m, 0, 0)) rfl f rfl g3
  | false =>
    obtain ⟨m1, i1, i2, i3⟩ := IH (m := mx 1 m) mx_ge (mx_le (by decide) h2)
    obtain ⟨M, g1, g2, g3⟩ := K m1 (some (.int v)) (some (.ref 60)) (by omega) i2
    refine ⟨M, g1, g2, ?_⟩
    refine mEnds.steps 10 (q' := (63, [some (.ref 1), some (.int 1), some (.int (nI N)), some (.int v), some (.int (-4)), some (.int 0), some (.ref 52), some (.long 0), none, some (.int 1), some (.int v), o11], [.int v], hT m, 0, 0)) rfl ?_
    refine mEnds.brF (q' := (66, [some (.ref 1), some (.int 1), some (.int (nI N)), some (.int v), some (.int (-4)), some (.int 0), some (.ref 52), some (.long 0), none, some (.int 1), some (.int v), o11], [], hT m, 0, 0)) rfl f rfl ?_
    refine mEnds.steps 9 (q' := (80, [some (.ref 1), some (.int 1), some (.int (nI N)), some (.int v), some (.int (-4)), some (.int 0), some (.ref 52), some (.long 0), none, some (.int 1), some (.int v), some (.ref 60)], [.ref 52, .ref 60], hT m, 0, 0)) rfl ?_
    refine mEnds.call (d := 17) (y' := 7) (as := [.ref 60, .ref 52]) (q' := (83, [some (.ref 1), some (.int 1), some (.int (nI N)), some (.int v), some (.int (-4)), some (.int 0), some (.ref 52), some (.long 0), none, some (.int 1), some (.int v), some (.ref 60)], [], hT m, 0, 0)) (v := none) (hs' := hU1 m) (c' := 0) (s' := 0) rfl rfl (mEnds.deep (cpA1 h1 h2) 7) ?_
    show mEnds [] 18 84 (83, [some (.ref 1), some (.int 1), some (.int (nI N)), some (.int v), some (.int (-4)), some (.int 0), some (.ref 52), some (.long 0), none, some (.int 1), some (.int v), some (.ref 60)], [], hU1 m, 0, 0) _
    refine mEnds.steps 2 (q' := (87, [some (.ref 1), some (.int 1), some (.int (nI N)), some (.int v), some (.int (-4)), some (.int 0), some (.ref 52), some (.long 0), none, some (.int 1), some (.int v), some (.ref 60)], [.ref 60, .ref 60], hU1 m, 0, 0)) rfl ?_
    refine mEnds.call (d := 17) (y' := 14) (as := [.ref 60]) (q' := (90, [some (.ref 1), some (.int 1), some (.int (nI N)), some (.int v), some (.int (-4)), some (.int 0), some (.ref 52), some (.long 0), none, some (.int 1), some (.int v), some (.ref 60)], [.ref 60], hU1 m, 0, 0)) (v := some (.int 10)) (hs' := hU1 m) (c' := 0) (s' := 0) rfl rfl (mEnds.deep (skA1 h1 h2) 7) ?_
    show mEnds [] 18 84 (90, [some (.ref 1), some (.int 1), some (.int (nI N)), some (.int v), some (.int (-4)), some (.int 0), some (.ref 52), some (.long 0), none, some (.int 1), some (.int v), some (.ref 60)], [.int 10, .ref 60], hU1 m, 0, 0) _
    refine mEnds.steps 5 (q' := (101, [some (.ref 1), some (.int 1), some (.int (nI N)), some (.int v), some (.int (-4)), some (.int 0), some (.ref 52), some (.long 0), none, some (.int 1), some (.int v), some (.ref 60)], [.int 1, .int 10, .ref 60], hU1 m, 0, 0)) rfl ?_
    refine mEnds.call (d := 17) (y' := 24) (as := [.ref 60, .int 10, .int 1]) (q' := (104, [some (.ref 1), some (.int 1), some (.int (nI N)), some (.int v), some (.int (-4)), some (.int 0), some (.ref 52), some (.long 0), none, some (.int 1), some (.int v), some (.ref 60)], [], hU1 m, 0, 0)) (v := none) (hs' := hT (mx 1 m)) (c' := 0) (s' := 0) rfl rfl (mEnds.deep (paA1_1 h1 h2) 7) ?_
    show mEnds [] 18 84 (104, [some (.ref 1), some (.int 1), some (.int (nI N)), some (.int v), some (.int (-4)), some (.int 0), some (.ref 52), some (.long 0), none, some (.int 1), some (.int v), some (.ref 60)], [], hT (mx 1 m), 0, 0) _
    refine mEnds.steps 11 (q' := (119, [some (.ref 1), some (.int 1), some (.int (nI N)), some (.int v), some (.int (-4)), some (.int 0), some (.ref 52), some (.long 0), none, some (.int 1), some (.int v), some (.ref 60)], [.int 0, .int (-4), .int v, .int (nI N), .int 2, .ref 1, .long (v).toInt64, .long 0], hT (mx 1 m), 0, 0)) rfl ?_
    refine mEnds.call (d := 17) (y' := 84) (as := [.ref 1, .int 2, .int (nI N), .int v, .int (-4), .int 0]) (q' := (122, [some (.ref 1), some (.int 1), some (.int (nI N)), some (.int v), some (.int (-4)), some (.int 0), some (.ref 52), some (.long 0), none, some (.int 1), some (.int v), some (.ref 60)], [.long (v).toInt64, .long 0], hT (mx 1 m), 0, 0)) (v := some (.long 0)) (hs' := hT m1) (c' := 0) (s' := 0) rfl rfl i3 ?_
    show mEnds [] 18 84 (122, [some (.ref 1), some (.int 1), some (.int (nI N)), some (.int v), some (.int (-4)), some (.int 0), some (.ref 52), some (.long 0), none, some (.int 1), some (.int v), some (.ref 60)], [.long 0, .long (v).toInt64, .long 0], hT m1, 0, 0) _
    refine mEnds.steps 3 (q' := (126, [some (.ref 1), some (.int 1), some (.int (nI N)), some (.int v), some (.int (-4)), some (.int 0), some (.ref 52), some (.long (0 + (v).toInt64 * 0)), none, some (.int 1), some (.int v), some (.ref 60)], [], hT m1, 0, 0)) rfl ?_
    rw [lz]
    exact g3
set_option maxRecDepth 100000 in
theorem it1_0 {N m : Nat} (v : Int32) (hN : N ≤ 8) (hd : 1 < N) (h1 : 1 ≤ m) (h2 : m ≤ 8) (o10 o11 : Option Value)
    (IH : ∀ {m : Nat}, 2 ≤ m → m ≤ 8 → ∃ M, 2 ≤ M ∧ M ≤ 8 ∧ mEnds [] 17 84 (mentry 84 [.ref 1, .int 2, .int (nI N), .int v, .int (-4), .int 0] (hT m)) (some (.long 0), hT M, 0, 0))
    (K : ∀ (m : Nat) (o10 o11 : Option Value), 1 ≤ m → m ≤ 8 → ∃ M, 1 ≤ M ∧ M ≤ 8 ∧ mEnds [] 18 84 (126, [some (.ref 1), some (.int 1), some (.int (nI N)), some (.int v), some (.int (-4)), some (.int 0), some (.ref 52), some (.long 0), none, some (.int 0), o10, o11], [], hT m, 0, 0) (some (.long 0), hT M, 0, 0)) :
    ∃ M, 1 ≤ M ∧ M ≤ 8 ∧ mEnds [] 18 84 (39, [some (.ref 1), some (.int 1), some (.int (nI N)), some (.int v), some (.int (-4)), some (.int 0), some (.ref 52), some (.long 0), none, some (.int 0), o10, o11], [], hT m, 0, 0) (some (.long 0), hT M, 0, 0) := by
  cases f : decide ((10 - v) ≤ 0) with
  | true =>
    obtain ⟨M, g1, g2, g3⟩ := K m (some (.int (10 - v))) o11 h1 h2
    refine ⟨M, g1, g2, ?_⟩
    refine mEnds.steps 11 (q' := (63, [some (.ref 1), some (.int 1), some (.int (nI N)), some (.int v), some (.int (-4)), some (.int 0), some (.ref 52), some (.long 0), none, some (.int 0), some (.int (10 - v)), o11], [.int (10 - v)], hT m, 0, 0)) rfl ?_
    exact mEnds.brT (q' := (126, [some (.ref 1), some (.int 1), some (.int (nI N)), some (.int v), some (.int (-4)), some (.int 0), some (.ref 52), some (.long 0), none, some (.int 0), some (.int (10 - v)), o11], [], hT m, 0, 0)) rfl f rfl g3
  | false =>
    obtain ⟨m1, i1, i2, i3⟩ := IH (m := mx 1 m) mx_ge (mx_le (by decide) h2)
    obtain ⟨M, g1, g2, g3⟩ := K m1 (some (.int (10 - v))) (some (.ref 60)) (by omega) i2
    refine ⟨M, g1, g2, ?_⟩
    refine mEnds.steps 11 (q' := (63, [some (.ref 1), some (.int 1), some (.int (nI N)), some (.int v), some (.int (-4)), some (.int 0), some (.ref 52), some (.long 0), none, some (.int 0), some (.int (10 - v)), o11], [.int (10 - v)], hT m, 0, 0)) rfl ?_
    refine mEnds.brF (q' := (66, [some (.ref 1), some (.int 1), some (.int (nI N)), some (.int v), some (.int (-4)), some (.int 0), some (.ref 52), some (.long 0), none, some (.int 0), some (.int (10 - v)), o11], [], hT m, 0, 0)) rfl f rfl ?_
    refine mEnds.steps 9 (q' := (80, [some (.ref 1), some (.int 1), some (.int (nI N)), some (.int v), some (.int (-4)), some (.int 0), some (.ref 52), some (.long 0), none, some (.int 0), some (.int (10 - v)), some (.ref 60)], [.ref 52, .ref 60], hT m, 0, 0)) rfl ?_
    refine mEnds.call (d := 17) (y' := 7) (as := [.ref 60, .ref 52]) (q' := (83, [some (.ref 1), some (.int 1), some (.int (nI N)), some (.int v), some (.int (-4)), some (.int 0), some (.ref 52), some (.long 0), none, some (.int 0), some (.int (10 - v)), some (.ref 60)], [], hT m, 0, 0)) (v := none) (hs' := hU1 m) (c' := 0) (s' := 0) rfl rfl (mEnds.deep (cpA1 h1 h2) 7) ?_
    show mEnds [] 18 84 (83, [some (.ref 1), some (.int 1), some (.int (nI N)), some (.int v), some (.int (-4)), some (.int 0), some (.ref 52), some (.long 0), none, some (.int 0), some (.int (10 - v)), some (.ref 60)], [], hU1 m, 0, 0) _
    refine mEnds.steps 2 (q' := (87, [some (.ref 1), some (.int 1), some (.int (nI N)), some (.int v), some (.int (-4)), some (.int 0), some (.ref 52), some (.long 0), none, some (.int 0), some (.int (10 - v)), some (.ref 60)], [.ref 60, .ref 60], hU1 m, 0, 0)) rfl ?_
    refine mEnds.call (d := 17) (y' := 14) (as := [.ref 60]) (q' := (90, [some (.ref 1), some (.int 1), some (.int (nI N)), some (.int v), some (.int (-4)), some (.int 0), some (.ref 52), some (.long 0), none, some (.int 0), some (.int (10 - v)), some (.ref 60)], [.ref 60], hU1 m, 0, 0)) (v := some (.int 10)) (hs' := hU1 m) (c' := 0) (s' := 0) rfl rfl (mEnds.deep (skA1 h1 h2) 7) ?_
    show mEnds [] 18 84 (90, [some (.ref 1), some (.int 1), some (.int (nI N)), some (.int v), some (.int (-4)), some (.int 0), some (.ref 52), some (.long 0), none, some (.int 0), some (.int (10 - v)), some (.ref 60)], [.int 10, .ref 60], hU1 m, 0, 0) _
    refine mEnds.steps 4 (q' := (101, [some (.ref 1), some (.int 1), some (.int (nI N)), some (.int v), some (.int (-4)), some (.int 0), some (.ref 52), some (.long 0), none, some (.int 0), some (.int (10 - v)), some (.ref 60)], [.int 0, .int 10, .ref 60], hU1 m, 0, 0)) rfl ?_
    refine mEnds.call (d := 17) (y' := 24) (as := [.ref 60, .int 10, .int 0]) (q' := (104, [some (.ref 1), some (.int 1), some (.int (nI N)), some (.int v), some (.int (-4)), some (.int 0), some (.ref 52), some (.long 0), none, some (.int 0), some (.int (10 - v)), some (.ref 60)], [], hU1 m, 0, 0)) (v := none) (hs' := hT (mx 1 m)) (c' := 0) (s' := 0) rfl rfl (mEnds.deep (paA1_0 h1 h2) 7) ?_
    show mEnds [] 18 84 (104, [some (.ref 1), some (.int 1), some (.int (nI N)), some (.int v), some (.int (-4)), some (.int 0), some (.ref 52), some (.long 0), none, some (.int 0), some (.int (10 - v)), some (.ref 60)], [], hT (mx 1 m), 0, 0) _
    refine mEnds.steps 11 (q' := (119, [some (.ref 1), some (.int 1), some (.int (nI N)), some (.int v), some (.int (-4)), some (.int 0), some (.ref 52), some (.long 0), none, some (.int 0), some (.int (10 - v)), some (.ref 60)], [.int 0, .int (-4), .int v, .int (nI N), .int 2, .ref 1, .long ((10 - v)).toInt64, .long 0], hT (mx 1 m), 0, 0)) rfl ?_
    refine mEnds.call (d := 17) (y' := 84) (as := [.ref 1, .int 2, .int (nI N), .int v, .int (-4), .int 0]) (q' := (122, [some (.ref 1), some (.int 1), some (.int (nI N)), some (.int v), some (.int (-4)), some (.int 0), some (.ref 52), some (.long 0), none, some (.int 0), some (.int (10 - v)), some (.ref 60)], [.long ((10 - v)).toInt64, .long 0], hT (mx 1 m), 0, 0)) (v := some (.long 0)) (hs' := hT m1) (c' := 0) (s' := 0) rfl rfl i3 ?_
    show mEnds [] 18 84 (122, [some (.ref 1), some (.int 1), some (.int (nI N)), some (.int v), some (.int (-4)), some (.int 0), some (.ref 52), some (.long 0), none, some (.int 0), some (.int (10 - v)), some (.ref 60)], [.long 0, .long ((10 - v)).toInt64, .long 0], hT m1, 0, 0) _
    refine mEnds.steps 3 (q' := (126, [some (.ref 1), some (.int 1), some (.int (nI N)), some (.int v), some (.int (-4)), some (.int 0), some (.ref 52), some (.long (0 + ((10 - v)).toInt64 * 0)), none, some (.int 0), some (.int (10 - v)), some (.ref 60)], [], hT m1, 0, 0)) rfl ?_
    rw [lz]
    exact g3
set_option maxRecDepth 100000 in
theorem wg1 {N m : Nat} (v : Int32) (hN : N ≤ 8) (hd : 1 ≤ N) (h1 : 1 ≤ m) (h2 : m ≤ 8) : ∃ M, 1 ≤ M ∧ M ≤ 8 ∧ mEnds [] 18 84 (mentry 84 [.ref 1, .int 1, .int (nI N), .int v, .int (-4), .int 0] (hT m)) (some (.long 0), hT M, 0, 0) := by
  have pre : ∀ {x : Option Value × mH × Nat × Nat}, mEnds [] 18 84 (10, [some (.ref 1), some (.int 1), some (.int (nI N)), some (.int v), some (.int (-4)), some (.int 0), some (.ref 52), none, none, none, none, none], [.int (nI N), .int 1], hT m, 0, 0) x → mEnds [] 18 84 (mentry 84 [.ref 1, .int 1, .int (nI N), .int v, .int (-4), .int 0] (hT m)) x := fun k =>
    mEnds.steps 7 (q' := (10, [some (.ref 1), some (.int 1), some (.int (nI N)), some (.int v), some (.int (-4)), some (.int 0), some (.ref 52), none, none, none, none, none], [.int (nI N), .int 1], hT m, 0, 0)) rfl k
  by_cases e : N ≤ 1
  · refine ⟨m, h1, h2, pre ?_⟩
    refine mEnds.brT (q' := (21, [some (.ref 1), some (.int 1), some (.int (nI N)), some (.int v), some (.int (-4)), some (.int 0), some (.ref 52), none, none, none, none, none], [], hT m, 0, 0)) rfl (decide_eq_true (nI_le (b := 1) e (by decide))) rfl ?_
    refine mEnds.steps 4 (q' := (28, [some (.ref 1), some (.int 1), some (.int (nI N)), some (.int v), some (.int (-4)), some (.int 0), some (.ref 52), none, none, none, none, none], [.int 0, .int (-4), .ref 52, .ref 1], hT m, 0, 0)) rfl ?_
    refine mEnds.call (d := 17) (y' := 85) (as := [.ref 1, .ref 52, .int (-4), .int 0]) (q' := (31, [some (.ref 1), some (.int 1), some (.int (nI N)), some (.int v), some (.int (-4)), some (.int 0), some (.ref 52), none, none, none, none, none], [], hT m, 0, 0)) (v := some (.int 0)) (hs' := hT m) (c' := 0) (s' := 0) rfl rfl (mEnds.deep (oc1 h1 h2) 7) ?_
    show mEnds [] 18 84 (31, [some (.ref 1), some (.int 1), some (.int (nI N)), some (.int v), some (.int (-4)), some (.int 0), some (.ref 52), none, none, none, none, none], [.int 0], hT m, 0, 0) _
    refine mEnds.steps 1 (q' := (32, [some (.ref 1), some (.int 1), some (.int (nI N)), some (.int v), some (.int (-4)), some (.int 0), some (.ref 52), none, none, none, none, none], [.long 0], hT m, 0, 0)) rfl ?_
    exact mEnds.ret rfl
  · obtain ⟨M, g1, g2, g3⟩ := it1_0 (N := N) (m := m) v hN (by omega) h1 h2 none none (fun a b => wg2 v hN (by omega) a b) (fun m o10 o11 h1 h2 => by
      obtain ⟨M, g1, g2, g3⟩ := it1_1 (N := N) (m := m) v hN (by omega) h1 h2 o10 o11 (fun a b => wg2 v hN (by omega) a b) (fun m o10 o11 h1 h2 => by
        refine ⟨m, h1, h2, ?_⟩
        refine mEnds.steps 6 (q' := (134, [some (.ref 1), some (.int 1), some (.int (nI N)), some (.int v), some (.int (-4)), some (.int 0), some (.ref 52), some (.long 0), none, some (.int 2), o10, o11], [.long 0], hT m, 0, 0)) rfl ?_
        exact mEnds.ret rfl)
      refine ⟨M, g1, g2, ?_⟩
      exact mEnds.steps 2 (q' := (39, [some (.ref 1), some (.int 1), some (.int (nI N)), some (.int v), some (.int (-4)), some (.int 0), some (.ref 52), some (.long 0), none, some (.int 1), o10, o11], [], hT m, 0, 0)) rfl g3)
    refine ⟨M, g1, g2, pre ?_⟩
    refine mEnds.brF (q' := (13, [some (.ref 1), some (.int 1), some (.int (nI N)), some (.int v), some (.int (-4)), some (.int 0), some (.ref 52), none, none, none, none, none], [], hT m, 0, 0)) rfl (decide_eq_false (nI_ge (a := 1) (by omega) (by omega))) rfl ?_
    exact mEnds.steps 9 (q' := (39, [some (.ref 1), some (.int 1), some (.int (nI N)), some (.int v), some (.int (-4)), some (.int 0), some (.ref 52), some (.long 0), none, some (.int 0), none, none], [], hT m, 0, 0)) rfl g3
set_option maxRecDepth 100000 in
theorem it0_1 {N m : Nat} (v : Int32) (hN : N ≤ 8) (hd : 0 < N) (h1 : 0 ≤ m) (h2 : m ≤ 8) (o10 o11 : Option Value)
    (IH : ∀ {m : Nat}, 1 ≤ m → m ≤ 8 → ∃ M, 1 ≤ M ∧ M ≤ 8 ∧ mEnds [] 18 84 (mentry 84 [.ref 1, .int 1, .int (nI N), .int v, .int (-4), .int 0] (hT m)) (some (.long 0), hT M, 0, 0))
    (K : ∀ (m : Nat) (o10 o11 : Option Value), 0 ≤ m → m ≤ 8 → ∃ M, 0 ≤ M ∧ M ≤ 8 ∧ mEnds [] 19 84 (126, [some (.ref 1), some (.int 0), some (.int (nI N)), some (.int v), some (.int (-4)), some (.int 0), some (.ref 44), some (.long 0), none, some (.int 1), o10, o11], [], hT m, 0, 0) (some (.long 0), hT M, 0, 0)) :
    ∃ M, 0 ≤ M ∧ M ≤ 8 ∧ mEnds [] 19 84 (39, [some (.ref 1), some (.int 0), some (.int (nI N)), some (.int v), some (.int (-4)), some (.int 0), some (.ref 44), some (.long 0), none, some (.int 1), o10, o11], [], hT m, 0, 0) (some (.long 0), hT M, 0, 0) := by
  cases f : decide (v ≤ 0) with
  | true =>
    obtain ⟨M, g1, g2, g3⟩ := K m (some (.int v)) o11 h1 h2
    refine ⟨M, g1, g2, ?_⟩
    refine mEnds.steps 10 (q' := (63, [some (.ref 1), some (.int 0), some (.int (nI N)), some (.int v), some (.int (-4)), some (.int 0), some (.ref 44), some (.long 0), none, some (.int 1), some (.int v), o11], [.int v], hT m, 0, 0)) rfl ?_
    exact mEnds.brT (q' := (126, [some (.ref 1), some (.int 0), some (.int (nI N)), some (.int v), some (.int (-4)), some (.int 0), some (.ref 44), some (.long 0), none, some (.int 1), some (.int v), o11], [], hT m, 0, 0)) rfl f rfl g3
  | false =>
    obtain ⟨m1, i1, i2, i3⟩ := IH (m := mx 0 m) mx_ge (mx_le (by decide) h2)
    obtain ⟨M, g1, g2, g3⟩ := K m1 (some (.int v)) (some (.ref 52)) (by omega) i2
    refine ⟨M, g1, g2, ?_⟩
    refine mEnds.steps 10 (q' := (63, [some (.ref 1), some (.int 0), some (.int (nI N)), some (.int v), some (.int (-4)), some (.int 0), some (.ref 44), some (.long 0), none, some (.int 1), some (.int v), o11], [.int v], hT m, 0, 0)) rfl ?_
    refine mEnds.brF (q' := (66, [some (.ref 1), some (.int 0), some (.int (nI N)), some (.int v), some (.int (-4)), some (.int 0), some (.ref 44), some (.long 0), none, some (.int 1), some (.int v), o11], [], hT m, 0, 0)) rfl f rfl ?_
    refine mEnds.steps 9 (q' := (80, [some (.ref 1), some (.int 0), some (.int (nI N)), some (.int v), some (.int (-4)), some (.int 0), some (.ref 44), some (.long 0), none, some (.int 1), some (.int v), some (.ref 52)], [.ref 44, .ref 52], hT m, 0, 0)) rfl ?_
    refine mEnds.call (d := 18) (y' := 7) (as := [.ref 52, .ref 44]) (q' := (83, [some (.ref 1), some (.int 0), some (.int (nI N)), some (.int v), some (.int (-4)), some (.int 0), some (.ref 44), some (.long 0), none, some (.int 1), some (.int v), some (.ref 52)], [], hT m, 0, 0)) (v := none) (hs' := hU0 m) (c' := 0) (s' := 0) rfl rfl (mEnds.deep (cpA0 h1 h2) 8) ?_
    show mEnds [] 19 84 (83, [some (.ref 1), some (.int 0), some (.int (nI N)), some (.int v), some (.int (-4)), some (.int 0), some (.ref 44), some (.long 0), none, some (.int 1), some (.int v), some (.ref 52)], [], hU0 m, 0, 0) _
    refine mEnds.steps 2 (q' := (87, [some (.ref 1), some (.int 0), some (.int (nI N)), some (.int v), some (.int (-4)), some (.int 0), some (.ref 44), some (.long 0), none, some (.int 1), some (.int v), some (.ref 52)], [.ref 52, .ref 52], hU0 m, 0, 0)) rfl ?_
    refine mEnds.call (d := 18) (y' := 14) (as := [.ref 52]) (q' := (90, [some (.ref 1), some (.int 0), some (.int (nI N)), some (.int v), some (.int (-4)), some (.int 0), some (.ref 44), some (.long 0), none, some (.int 1), some (.int v), some (.ref 52)], [.ref 52], hU0 m, 0, 0)) (v := some (.int 10)) (hs' := hU0 m) (c' := 0) (s' := 0) rfl rfl (mEnds.deep (skA0 h1 h2) 8) ?_
    show mEnds [] 19 84 (90, [some (.ref 1), some (.int 0), some (.int (nI N)), some (.int v), some (.int (-4)), some (.int 0), some (.ref 44), some (.long 0), none, some (.int 1), some (.int v), some (.ref 52)], [.int 10, .ref 52], hU0 m, 0, 0) _
    refine mEnds.steps 5 (q' := (101, [some (.ref 1), some (.int 0), some (.int (nI N)), some (.int v), some (.int (-4)), some (.int 0), some (.ref 44), some (.long 0), none, some (.int 1), some (.int v), some (.ref 52)], [.int 1, .int 10, .ref 52], hU0 m, 0, 0)) rfl ?_
    refine mEnds.call (d := 18) (y' := 24) (as := [.ref 52, .int 10, .int 1]) (q' := (104, [some (.ref 1), some (.int 0), some (.int (nI N)), some (.int v), some (.int (-4)), some (.int 0), some (.ref 44), some (.long 0), none, some (.int 1), some (.int v), some (.ref 52)], [], hU0 m, 0, 0)) (v := none) (hs' := hT (mx 0 m)) (c' := 0) (s' := 0) rfl rfl (mEnds.deep (paA0_1 h1 h2) 8) ?_
    show mEnds [] 19 84 (104, [some (.ref 1), some (.int 0), some (.int (nI N)), some (.int v), some (.int (-4)), some (.int 0), some (.ref 44), some (.long 0), none, some (.int 1), some (.int v), some (.ref 52)], [], hT (mx 0 m), 0, 0) _
    refine mEnds.steps 11 (q' := (119, [some (.ref 1), some (.int 0), some (.int (nI N)), some (.int v), some (.int (-4)), some (.int 0), some (.ref 44), some (.long 0), none, some (.int 1), some (.int v), some (.ref 52)], [.int 0, .int (-4), .int v, .int (nI N), .int 1, .ref 1, .long (v).toInt64, .long 0], hT (mx 0 m), 0, 0)) rfl ?_
    refine mEnds.call (d := 18) (y' := 84) (as := [.ref 1, .int 1, .int (nI N), .int v, .int (-4), .int 0]) (q' := (122, [some (.ref 1), some (.int 0), some (.int (nI N)), some (.int v), some (.int (-4)), some (.int 0), some (.ref 44), some (.long 0), none, some (.int 1), some (.int v), some (.ref 52)], [.long (v).toInt64, .long 0], hT (mx 0 m), 0, 0)) (v := some (.long 0)) (hs' := hT m1) (c' := 0) (s' := 0) rfl rfl i3 ?_
    show mEnds [] 19 84 (122, [some (.ref 1), some (.int 0), some (.int (nI N)), some (.int v), some (.int (-4)), some (.int 0), some (.ref 44), some (.long 0), none, some (.int 1), some (.int v), some (.ref 52)], [.long 0, .long (v).toInt64, .long 0], hT m1, 0, 0) _
    refine mEnds.steps 3 (q' := (126, [some (.ref 1), some (.int 0), some (.int (nI N)), some (.int v), some (.int (-4)), some (.int 0), some (.ref 44), some (.long (0 + (v).toInt64 * 0)), none, some (.int 1), some (.int v), some (.ref 52)], [], hT m1, 0, 0)) rfl ?_
    rw [lz]
    exact g3
set_option maxRecDepth 100000 in
theorem it0_0 {N m : Nat} (v : Int32) (hN : N ≤ 8) (hd : 0 < N) (h1 : 0 ≤ m) (h2 : m ≤ 8) (o10 o11 : Option Value)
    (IH : ∀ {m : Nat}, 1 ≤ m → m ≤ 8 → ∃ M, 1 ≤ M ∧ M ≤ 8 ∧ mEnds [] 18 84 (mentry 84 [.ref 1, .int 1, .int (nI N), .int v, .int (-4), .int 0] (hT m)) (some (.long 0), hT M, 0, 0))
    (K : ∀ (m : Nat) (o10 o11 : Option Value), 0 ≤ m → m ≤ 8 → ∃ M, 0 ≤ M ∧ M ≤ 8 ∧ mEnds [] 19 84 (126, [some (.ref 1), some (.int 0), some (.int (nI N)), some (.int v), some (.int (-4)), some (.int 0), some (.ref 44), some (.long 0), none, some (.int 0), o10, o11], [], hT m, 0, 0) (some (.long 0), hT M, 0, 0)) :
    ∃ M, 0 ≤ M ∧ M ≤ 8 ∧ mEnds [] 19 84 (39, [some (.ref 1), some (.int 0), some (.int (nI N)), some (.int v), some (.int (-4)), some (.int 0), some (.ref 44), some (.long 0), none, some (.int 0), o10, o11], [], hT m, 0, 0) (some (.long 0), hT M, 0, 0) := by
  cases f : decide ((10 - v) ≤ 0) with
  | true =>
    obtain ⟨M, g1, g2, g3⟩ := K m (some (.int (10 - v))) o11 h1 h2
    refine ⟨M, g1, g2, ?_⟩
    refine mEnds.steps 11 (q' := (63, [some (.ref 1), some (.int 0), some (.int (nI N)), some (.int v), some (.int (-4)), some (.int 0), some (.ref 44), some (.long 0), none, some (.int 0), some (.int (10 - v)), o11], [.int (10 - v)], hT m, 0, 0)) rfl ?_
    exact mEnds.brT (q' := (126, [some (.ref 1), some (.int 0), some (.int (nI N)), some (.int v), some (.int (-4)), some (.int 0), some (.ref 44), some (.long 0), none, some (.int 0), some (.int (10 - v)), o11], [], hT m, 0, 0)) rfl f rfl g3
  | false =>
    obtain ⟨m1, i1, i2, i3⟩ := IH (m := mx 0 m) mx_ge (mx_le (by decide) h2)
    obtain ⟨M, g1, g2, g3⟩ := K m1 (some (.int (10 - v))) (some (.ref 52)) (by omega) i2
    refine ⟨M, g1, g2, ?_⟩
    refine mEnds.steps 11 (q' := (63, [some (.ref 1), some (.int 0), some (.int (nI N)), some (.int v), some (.int (-4)), some (.int 0), some (.ref 44), some (.long 0), none, some (.int 0), some (.int (10 - v)), o11], [.int (10 - v)], hT m, 0, 0)) rfl ?_
    refine mEnds.brF (q' := (66, [some (.ref 1), some (.int 0), some (.int (nI N)), some (.int v), some (.int (-4)), some (.int 0), some (.ref 44), some (.long 0), none, some (.int 0), some (.int (10 - v)), o11], [], hT m, 0, 0)) rfl f rfl ?_
    refine mEnds.steps 9 (q' := (80, [some (.ref 1), some (.int 0), some (.int (nI N)), some (.int v), some (.int (-4)), some (.int 0), some (.ref 44), some (.long 0), none, some (.int 0), some (.int (10 - v)), some (.ref 52)], [.ref 44, .ref 52], hT m, 0, 0)) rfl ?_
    refine mEnds.call (d := 18) (y' := 7) (as := [.ref 52, .ref 44]) (q' := (83, [some (.ref 1), some (.int 0), some (.int (nI N)), some (.int v), some (.int (-4)), some (.int 0), some (.ref 44), some (.long 0), none, some (.int 0), some (.int (10 - v)), some (.ref 52)], [], hT m, 0, 0)) (v := none) (hs' := hU0 m) (c' := 0) (s' := 0) rfl rfl (mEnds.deep (cpA0 h1 h2) 8) ?_
    show mEnds [] 19 84 (83, [some (.ref 1), some (.int 0), some (.int (nI N)), some (.int v), some (.int (-4)), some (.int 0), some (.ref 44), some (.long 0), none, some (.int 0), some (.int (10 - v)), some (.ref 52)], [], hU0 m, 0, 0) _
    refine mEnds.steps 2 (q' := (87, [some (.ref 1), some (.int 0), some (.int (nI N)), some (.int v), some (.int (-4)), some (.int 0), some (.ref 44), some (.long 0), none, some (.int 0), some (.int (10 - v)), some (.ref 52)], [.ref 52, .ref 52], hU0 m, 0, 0)) rfl ?_
    refine mEnds.call (d := 18) (y' := 14) (as := [.ref 52]) (q' := (90, [some (.ref 1), some (.int 0), some (.int (nI N)), some (.int v), some (.int (-4)), some (.int 0), some (.ref 44), some (.long 0), none, some (.int 0), some (.int (10 - v)), some (.ref 52)], [.ref 52], hU0 m, 0, 0)) (v := some (.int 10)) (hs' := hU0 m) (c' := 0) (s' := 0) rfl rfl (mEnds.deep (skA0 h1 h2) 8) ?_
    show mEnds [] 19 84 (90, [some (.ref 1), some (.int 0), some (.int (nI N)), some (.int v), some (.int (-4)), some (.int 0), some (.ref 44), some (.long 0), none, some (.int 0), some (.int (10 - v)), some (.ref 52)], [.int 10, .ref 52], hU0 m, 0, 0) _
    refine mEnds.steps 4 (q' := (101, [some (.ref 1), some (.int 0), some (.int (nI N)), some (.int v), some (.int (-4)), some (.int 0), some (.ref 44), some (.long 0), none, some (.int 0), some (.int (10 - v)), some (.ref 52)], [.int 0, .int 10, .ref 52], hU0 m, 0, 0)) rfl ?_
    refine mEnds.call (d := 18) (y' := 24) (as := [.ref 52, .int 10, .int 0]) (q' := (104, [some (.ref 1), some (.int 0), some (.int (nI N)), some (.int v), some (.int (-4)), some (.int 0), some (.ref 44), some (.long 0), none, some (.int 0), some (.int (10 - v)), some (.ref 52)], [], hU0 m, 0, 0)) (v := none) (hs' := hT (mx 0 m)) (c' := 0) (s' := 0) rfl rfl (mEnds.deep (paA0_0 h1 h2) 8) ?_
    show mEnds [] 19 84 (104, [some (.ref 1), some (.int 0), some (.int (nI N)), some (.int v), some (.int (-4)), some (.int 0), some (.ref 44), some (.long 0), none, some (.int 0), some (.int (10 - v)), some (.ref 52)], [], hT (mx 0 m), 0, 0) _
    refine mEnds.steps 11 (q' := (119, [some (.ref 1), some (.int 0), some (.int (nI N)), some (.int v), some (.int (-4)), some (.int 0), some (.ref 44), some (.long 0), none, some (.int 0), some (.int (10 - v)), some (.ref 52)], [.int 0, .int (-4), .int v, .int (nI N), .int 1, .ref 1, .long ((10 - v)).toInt64, .long 0], hT (mx 0 m), 0, 0)) rfl ?_
    refine mEnds.call (d := 18) (y' := 84) (as := [.ref 1, .int 1, .int (nI N), .int v, .int (-4), .int 0]) (q' := (122, [some (.ref 1), some (.int 0), some (.int (nI N)), some (.int v), some (.int (-4)), some (.int 0), some (.ref 44), some (.long 0), none, some (.int 0), some (.int (10 - v)), some (.ref 52)], [.long ((10 - v)).toInt64, .long 0], hT (mx 0 m), 0, 0)) (v := some (.long 0)) (hs' := hT m1) (c' := 0) (s' := 0) rfl rfl i3 ?_
    show mEnds [] 19 84 (122, [some (.ref 1), some (.int 0), some (.int (nI N)), some (.int v), some (.int (-4)), some (.int 0), some (.ref 44), some (.long 0), none, some (.int 0), some (.int (10 - v)), some (.ref 52)], [.long 0, .long ((10 - v)).toInt64, .long 0], hT m1, 0, 0) _
    refine mEnds.steps 3 (q' := (126, [some (.ref 1), some (.int 0), some (.int (nI N)), some (.int v), some (.int (-4)), some (.int 0), some (.ref 44), some (.long (0 + ((10 - v)).toInt64 * 0)), none, some (.int 0), some (.int (10 - v)), some (.ref 52)], [], hT m1, 0, 0)) rfl ?_
    rw [lz]
    exact g3
set_option maxRecDepth 100000 in
theorem wg0 {N m : Nat} (v : Int32) (hN : N ≤ 8) (hd : 0 ≤ N) (h1 : 0 ≤ m) (h2 : m ≤ 8) : ∃ M, 0 ≤ M ∧ M ≤ 8 ∧ mEnds [] 19 84 (mentry 84 [.ref 1, .int 0, .int (nI N), .int v, .int (-4), .int 0] (hT m)) (some (.long 0), hT M, 0, 0) := by
  have pre : ∀ {x : Option Value × mH × Nat × Nat}, mEnds [] 19 84 (10, [some (.ref 1), some (.int 0), some (.int (nI N)), some (.int v), some (.int (-4)), some (.int 0), some (.ref 44), none, none, none, none, none], [.int (nI N), .int 0], hT m, 0, 0) x → mEnds [] 19 84 (mentry 84 [.ref 1, .int 0, .int (nI N), .int v, .int (-4), .int 0] (hT m)) x := fun k =>
    mEnds.steps 7 (q' := (10, [some (.ref 1), some (.int 0), some (.int (nI N)), some (.int v), some (.int (-4)), some (.int 0), some (.ref 44), none, none, none, none, none], [.int (nI N), .int 0], hT m, 0, 0)) rfl k
  by_cases e : N ≤ 0
  · refine ⟨m, h1, h2, pre ?_⟩
    refine mEnds.brT (q' := (21, [some (.ref 1), some (.int 0), some (.int (nI N)), some (.int v), some (.int (-4)), some (.int 0), some (.ref 44), none, none, none, none, none], [], hT m, 0, 0)) rfl (decide_eq_true (nI_le (b := 0) e (by decide))) rfl ?_
    refine mEnds.steps 4 (q' := (28, [some (.ref 1), some (.int 0), some (.int (nI N)), some (.int v), some (.int (-4)), some (.int 0), some (.ref 44), none, none, none, none, none], [.int 0, .int (-4), .ref 44, .ref 1], hT m, 0, 0)) rfl ?_
    refine mEnds.call (d := 18) (y' := 85) (as := [.ref 1, .ref 44, .int (-4), .int 0]) (q' := (31, [some (.ref 1), some (.int 0), some (.int (nI N)), some (.int v), some (.int (-4)), some (.int 0), some (.ref 44), none, none, none, none, none], [], hT m, 0, 0)) (v := some (.int 0)) (hs' := hT m) (c' := 0) (s' := 0) rfl rfl (mEnds.deep (oc0 h1 h2) 8) ?_
    show mEnds [] 19 84 (31, [some (.ref 1), some (.int 0), some (.int (nI N)), some (.int v), some (.int (-4)), some (.int 0), some (.ref 44), none, none, none, none, none], [.int 0], hT m, 0, 0) _
    refine mEnds.steps 1 (q' := (32, [some (.ref 1), some (.int 0), some (.int (nI N)), some (.int v), some (.int (-4)), some (.int 0), some (.ref 44), none, none, none, none, none], [.long 0], hT m, 0, 0)) rfl ?_
    exact mEnds.ret rfl
  · obtain ⟨M, g1, g2, g3⟩ := it0_0 (N := N) (m := m) v hN (by omega) h1 h2 none none (fun a b => wg1 v hN (by omega) a b) (fun m o10 o11 h1 h2 => by
      obtain ⟨M, g1, g2, g3⟩ := it0_1 (N := N) (m := m) v hN (by omega) h1 h2 o10 o11 (fun a b => wg1 v hN (by omega) a b) (fun m o10 o11 h1 h2 => by
        refine ⟨m, h1, h2, ?_⟩
        refine mEnds.steps 6 (q' := (134, [some (.ref 1), some (.int 0), some (.int (nI N)), some (.int v), some (.int (-4)), some (.int 0), some (.ref 44), some (.long 0), none, some (.int 2), o10, o11], [.long 0], hT m, 0, 0)) rfl ?_
        exact mEnds.ret rfl)
      refine ⟨M, g1, g2, ?_⟩
      exact mEnds.steps 2 (q' := (39, [some (.ref 1), some (.int 0), some (.int (nI N)), some (.int v), some (.int (-4)), some (.int 0), some (.ref 44), some (.long 0), none, some (.int 1), o10, o11], [], hT m, 0, 0)) rfl g3)
    refine ⟨M, g1, g2, pre ?_⟩
    refine mEnds.brF (q' := (13, [some (.ref 1), some (.int 0), some (.int (nI N)), some (.int v), some (.int (-4)), some (.int 0), some (.ref 44), none, none, none, none, none], [], hT m, 0, 0)) rfl (decide_eq_false (nI_ge (a := 0) (by omega) (by omega))) rfl ?_
    exact mEnds.steps 9 (q' := (39, [some (.ref 1), some (.int 0), some (.int (nI N)), some (.int v), some (.int (-4)), some (.int 0), some (.ref 44), some (.long 0), none, some (.int 0), none, none], [], hT m, 0, 0)) rfl g3
