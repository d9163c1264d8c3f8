/-! the 39 calls of the law -/
section LAW
variable {sc : List Int32} {d : Nat} {hC hM HS hC' hM' : mH} {nc ns i NC NS : Nat} {vs ws : List Value}
set_option maxRecDepth 100000 in
theorem law_case_0 {u w : Int32} (hL : sc.length < 2 ^ 31) (hi : i + 6 ≤ sc.length) (hR : LR hC hM HS) (hc : hC[10]? = some (.inr (4, vs))) (hm : hM[10]? = some (.inr (5, ws))) (hA : mEnds sc d 55 (mentry 55 (.ref 10 :: [.int (sc.getD (i + 1) 0)]) hC) (some (.int u), hC', 0, 0)) (hB : mEnds sc d 112 (mentry 112 (.ref 10 :: [.int (sc.getD (i + 1) 0)]) hM) (some (.int w), hM', 0, 0))
    (k : ∀ HS', LR hC' hM' HS' → mFin sc (d + 1) NC NS (1441, lawL i, [], HS', nc, ns)) : mFin sc (d + 1) NC NS (204, lawL i, [], HS, nc, ns) := by
  refine mFin.step (q' := (205, lawL i, .ref 10 :: [], HS, nc, ns)) (step_fetch (i := (204, .aload_n 1, 1, 0, 0, 0)) rfl rfl) mmon_rf ?_
  refine law_arg (k := 1) (by omega) hL rfl rfl rfl rfl rfl ?_
  refine law_C (as := [.int (sc.getD (i + 1) 0)]) (st := []) hR (idx := 13) (a := 55) rfl (by decide) rfl (fun _ => rfl) (fun _ => rfl) rfl hc rfl (Nat.le_of_ble_eq_true rfl) hA (fun H1 R1 => ?_)
  refine law_pop rfl rfl ?_
  refine mFin.step (q' := (215, lawL i, .ref 141 :: [], H1, nc, ns)) (step_fetch (i := (214, .aload_n 2, 1, 0, 0, 0)) rfl rfl) mmon_rf ?_
  refine law_arg (k := 1) (by omega) hL rfl rfl rfl rfl rfl ?_
  refine law_M (as := [.int (sc.getD (i + 1) 0)]) (st := []) R1 (idx := 17) (a := 112) rfl (by decide) rfl (fun _ => rfl) (fun _ => rfl) rfl hm rfl (Nat.le_of_ble_eq_true rfl) hB (fun H2 R2 => ?_)
  refine law_pop rfl rfl ?_
  exact law_go rfl (by decide) (k H2 R2)
set_option maxRecDepth 100000 in
theorem law_case_1 {u w : Int32} (hL : sc.length < 2 ^ 31) (hi : i + 6 ≤ sc.length) (hR : LR hC hM HS) (hc : hC[10]? = some (.inr (4, vs))) (hm : hM[10]? = some (.inr (5, ws))) (hA : mEnds sc d 56 (mentry 56 (.ref 10 :: [.int (sc.getD (i + 1) 0)]) hC) (some (.int u), hC', 0, 0)) (hB : mEnds sc d 113 (mentry 113 (.ref 10 :: [.int (sc.getD (i + 1) 0)]) hM) (some (.int w), hM', 0, 0))
    (k : ∀ HS', LR hC' hM' HS' → mFin sc (d + 1) NC NS (1441, lawL i, [], HS', nc, ns)) : mFin sc (d + 1) NC NS (227, lawL i, [], HS, nc, ns) := by
  refine mFin.step (q' := (228, lawL i, .ref 10 :: [], HS, nc, ns)) (step_fetch (i := (227, .aload_n 1, 1, 0, 0, 0)) rfl rfl) mmon_rf ?_
  refine law_arg (k := 1) (by omega) hL rfl rfl rfl rfl rfl ?_
  refine law_C (as := [.int (sc.getD (i + 1) 0)]) (st := []) hR (idx := 18) (a := 56) rfl (by decide) rfl (fun _ => rfl) (fun _ => rfl) rfl hc rfl (Nat.le_of_ble_eq_true rfl) hA (fun H1 R1 => ?_)
  refine law_pop rfl rfl ?_
  refine mFin.step (q' := (238, lawL i, .ref 141 :: [], H1, nc, ns)) (step_fetch (i := (237, .aload_n 2, 1, 0, 0, 0)) rfl rfl) mmon_rf ?_
  refine law_arg (k := 1) (by omega) hL rfl rfl rfl rfl rfl ?_
  refine law_M (as := [.int (sc.getD (i + 1) 0)]) (st := []) R1 (idx := 21) (a := 113) rfl (by decide) rfl (fun _ => rfl) (fun _ => rfl) rfl hm rfl (Nat.le_of_ble_eq_true rfl) hB (fun H2 R2 => ?_)
  refine law_pop rfl rfl ?_
  exact law_go rfl (by decide) (k H2 R2)
set_option maxRecDepth 100000 in
theorem law_case_2 {u w : Int32} (hL : sc.length < 2 ^ 31) (hi : i + 6 ≤ sc.length) (hR : LR hC hM HS) (hc : hC[10]? = some (.inr (4, vs))) (hm : hM[10]? = some (.inr (5, ws))) (hA : mEnds sc d 57 (mentry 57 (.ref 10 :: []) hC) (some (.int u), hC', 0, 0)) (hB : mEnds sc d 124 (mentry 124 (.ref 10 :: []) hM) (some (.int w), hM', 0, 0))
    (k : ∀ HS', LR hC' hM' HS' → mFin sc (d + 1) NC NS (1441, lawL i, [], HS', nc, ns)) : mFin sc (d + 1) NC NS (250, lawL i, [], HS, nc, ns) := by
  refine mFin.step (q' := (251, lawL i, .ref 10 :: [], HS, nc, ns)) (step_fetch (i := (250, .aload_n 1, 1, 0, 0, 0)) rfl rfl) mmon_rf ?_
  refine law_C (as := []) (st := []) hR (idx := 22) (a := 57) rfl (by decide) rfl (fun _ => rfl) (fun _ => rfl) rfl hc rfl (Nat.le_of_ble_eq_true rfl) hA (fun H1 R1 => ?_)
  refine law_pop rfl rfl ?_
  refine mFin.step (q' := (256, lawL i, .ref 141 :: [], H1, nc, ns)) (step_fetch (i := (255, .aload_n 2, 1, 0, 0, 0)) rfl rfl) mmon_rf ?_
  refine law_M (as := []) (st := []) R1 (idx := 26) (a := 124) rfl (by decide) rfl (fun _ => rfl) (fun _ => rfl) rfl hm rfl (Nat.le_of_ble_eq_true rfl) hB (fun H2 R2 => ?_)
  refine law_pop rfl rfl ?_
  exact law_go rfl (by decide) (k H2 R2)
set_option maxRecDepth 100000 in
theorem law_case_3 {u w : Int32} (hL : sc.length < 2 ^ 31) (hi : i + 6 ≤ sc.length) (hR : LR hC hM HS) (hc : hC[10]? = some (.inr (4, vs))) (hm : hM[10]? = some (.inr (5, ws))) (hA : mEnds sc d 58 (mentry 58 (.ref 10 :: []) hC) (some (.int u), hC', 0, 0)) (hB : mEnds sc d 125 (mentry 125 (.ref 10 :: []) hM) (some (.int w), hM', 0, 0))
    (k : ∀ HS', LR hC' hM' HS' → mFin sc (d + 1) NC NS (1441, lawL i, [], HS', nc, ns)) : mFin sc (d + 1) NC NS (263, lawL i, [], HS, nc, ns) := by
  refine mFin.step (q' := (264, lawL i, .ref 10 :: [], HS, nc, ns)) (step_fetch (i := (263, .aload_n 1, 1, 0, 0, 0)) rfl rfl) mmon_rf ?_
  refine law_C (as := []) (st := []) hR (idx := 27) (a := 58) rfl (by decide) rfl (fun _ => rfl) (fun _ => rfl) rfl hc rfl (Nat.le_of_ble_eq_true rfl) hA (fun H1 R1 => ?_)
  refine law_pop rfl rfl ?_
  refine mFin.step (q' := (269, lawL i, .ref 141 :: [], H1, nc, ns)) (step_fetch (i := (268, .aload_n 2, 1, 0, 0, 0)) rfl rfl) mmon_rf ?_
  refine law_M (as := []) (st := []) R1 (idx := 30) (a := 125) rfl (by decide) rfl (fun _ => rfl) (fun _ => rfl) rfl hm rfl (Nat.le_of_ble_eq_true rfl) hB (fun H2 R2 => ?_)
  refine law_pop rfl rfl ?_
  exact law_go rfl (by decide) (k H2 R2)
set_option maxRecDepth 100000 in
theorem law_case_4 {u w : Int32} (hL : sc.length < 2 ^ 31) (hi : i + 6 ≤ sc.length) (hR : LR hC hM HS) (hc : hC[10]? = some (.inr (4, vs))) (hm : hM[10]? = some (.inr (5, ws))) (hA : mEnds sc d 59 (mentry 59 (.ref 10 :: [.int (sc.getD (i + 1) 0)]) hC) (some (.int u), hC', 0, 0)) (hB : mEnds sc d 138 (mentry 138 (.ref 10 :: [.int (sc.getD (i + 1) 0)]) hM) (some (.int w), hM', 0, 0))
    (k : ∀ HS', LR hC' hM' HS' → mFin sc (d + 1) NC NS (1441, lawL i, [], HS', nc, ns)) : mFin sc (d + 1) NC NS (276, lawL i, [], HS, nc, ns) := by
  refine mFin.step (q' := (277, lawL i, .ref 10 :: [], HS, nc, ns)) (step_fetch (i := (276, .aload_n 1, 1, 0, 0, 0)) rfl rfl) mmon_rf ?_
  refine law_arg (k := 1) (by omega) hL rfl rfl rfl rfl rfl ?_
  refine law_C (as := [.int (sc.getD (i + 1) 0)]) (st := []) hR (idx := 31) (a := 59) rfl (by decide) rfl (fun _ => rfl) (fun _ => rfl) rfl hc rfl (Nat.le_of_ble_eq_true rfl) hA (fun H1 R1 => ?_)
  refine law_pop rfl rfl ?_
  refine mFin.step (q' := (287, lawL i, .ref 141 :: [], H1, nc, ns)) (step_fetch (i := (286, .aload_n 2, 1, 0, 0, 0)) rfl rfl) mmon_rf ?_
  refine law_arg (k := 1) (by omega) hL rfl rfl rfl rfl rfl ?_
  refine law_M (as := [.int (sc.getD (i + 1) 0)]) (st := []) R1 (idx := 34) (a := 138) rfl (by decide) rfl (fun _ => rfl) (fun _ => rfl) rfl hm rfl (Nat.le_of_ble_eq_true rfl) hB (fun H2 R2 => ?_)
  refine law_pop rfl rfl ?_
  exact law_go rfl (by decide) (k H2 R2)
set_option maxRecDepth 100000 in
theorem law_case_5 {u w : Int32} (hL : sc.length < 2 ^ 31) (hi : i + 6 ≤ sc.length) (hR : LR hC hM HS) (hc : hC[10]? = some (.inr (4, vs))) (hm : hM[10]? = some (.inr (5, ws))) (hA : mEnds sc d 60 (mentry 60 (.ref 10 :: [.int (sc.getD (i + 1) 0), .int (sc.getD (i + 2) 0)]) hC) (some (.int u), hC', 0, 0)) (hB : mEnds sc d 139 (mentry 139 (.ref 10 :: [.int (sc.getD (i + 1) 0), .int (sc.getD (i + 2) 0)]) hM) (some (.int w), hM', 0, 0))
    (k : ∀ HS', LR hC' hM' HS' → mFin sc (d + 1) NC NS (1441, lawL i, [], HS', nc, ns)) : mFin sc (d + 1) NC NS (299, lawL i, [], HS, nc, ns) := by
  refine mFin.step (q' := (300, lawL i, .ref 10 :: [], HS, nc, ns)) (step_fetch (i := (299, .aload_n 1, 1, 0, 0, 0)) rfl rfl) mmon_rf ?_
  refine law_arg (k := 1) (by omega) hL rfl rfl rfl rfl rfl ?_
  refine law_arg (k := 2) (by omega) hL rfl rfl rfl rfl rfl ?_
  refine law_C (as := [.int (sc.getD (i + 1) 0), .int (sc.getD (i + 2) 0)]) (st := []) hR (idx := 35) (a := 60) rfl (by decide) rfl (fun _ => rfl) (fun _ => rfl) rfl hc rfl (Nat.le_of_ble_eq_true rfl) hA (fun H1 R1 => ?_)
  refine law_pop rfl rfl ?_
  refine mFin.step (q' := (315, lawL i, .ref 141 :: [], H1, nc, ns)) (step_fetch (i := (314, .aload_n 2, 1, 0, 0, 0)) rfl rfl) mmon_rf ?_
  refine law_arg (k := 1) (by omega) hL rfl rfl rfl rfl rfl ?_
  refine law_arg (k := 2) (by omega) hL rfl rfl rfl rfl rfl ?_
  refine law_M (as := [.int (sc.getD (i + 1) 0), .int (sc.getD (i + 2) 0)]) (st := []) R1 (idx := 39) (a := 139) rfl (by decide) rfl (fun _ => rfl) (fun _ => rfl) rfl hm rfl (Nat.le_of_ble_eq_true rfl) hB (fun H2 R2 => ?_)
  refine law_pop rfl rfl ?_
  exact law_go rfl (by decide) (k H2 R2)
set_option maxRecDepth 100000 in
theorem law_case_6 {u w : Int32} (hL : sc.length < 2 ^ 31) (hi : i + 6 ≤ sc.length) (hR : LR hC hM HS) (hc : hC[10]? = some (.inr (4, vs))) (hm : hM[10]? = some (.inr (5, ws))) (hA : mEnds sc d 62 (mentry 62 (.ref 10 :: [.int (sc.getD (i + 1) 0)]) hC) (some (.int u), hC', 0, 0)) (hB : mEnds sc d 140 (mentry 140 (.ref 10 :: [.int (sc.getD (i + 1) 0)]) hM) (some (.int w), hM', 0, 0))
    (k : ∀ HS', LR hC' hM' HS' → mFin sc (d + 1) NC NS (1441, lawL i, [], HS', nc, ns)) : mFin sc (d + 1) NC NS (332, lawL i, [], HS, nc, ns) := by
  refine mFin.step (q' := (333, lawL i, .ref 10 :: [], HS, nc, ns)) (step_fetch (i := (332, .aload_n 1, 1, 0, 0, 0)) rfl rfl) mmon_rf ?_
  refine law_arg (k := 1) (by omega) hL rfl rfl rfl rfl rfl ?_
  refine law_C (as := [.int (sc.getD (i + 1) 0)]) (st := []) hR (idx := 40) (a := 62) rfl (by decide) rfl (fun _ => rfl) (fun _ => rfl) rfl hc rfl (Nat.le_of_ble_eq_true rfl) hA (fun H1 R1 => ?_)
  refine law_pop rfl rfl ?_
  refine mFin.step (q' := (343, lawL i, .ref 141 :: [], H1, nc, ns)) (step_fetch (i := (342, .aload_n 2, 1, 0, 0, 0)) rfl rfl) mmon_rf ?_
  refine law_arg (k := 1) (by omega) hL rfl rfl rfl rfl rfl ?_
  refine law_M (as := [.int (sc.getD (i + 1) 0)]) (st := []) R1 (idx := 43) (a := 140) rfl (by decide) rfl (fun _ => rfl) (fun _ => rfl) rfl hm rfl (Nat.le_of_ble_eq_true rfl) hB (fun H2 R2 => ?_)
  refine law_pop rfl rfl ?_
  exact law_go rfl (by decide) (k H2 R2)
set_option maxRecDepth 100000 in
theorem law_case_7 {u w : Int32} (hL : sc.length < 2 ^ 31) (hi : i + 6 ≤ sc.length) (hR : LR hC hM HS) (hc : hC[10]? = some (.inr (4, vs))) (hm : hM[10]? = some (.inr (5, ws))) (hA : mEnds sc d 63 (mentry 63 (.ref 10 :: [.int (sc.getD (i + 1) 0)]) hC) (some (.int u), hC', 0, 0)) (hB : mEnds sc d 141 (mentry 141 (.ref 10 :: [.int (sc.getD (i + 1) 0)]) hM) (some (.int w), hM', 0, 0))
    (k : ∀ HS', LR hC' hM' HS' → mFin sc (d + 1) NC NS (1441, lawL i, [], HS', nc, ns)) : mFin sc (d + 1) NC NS (355, lawL i, [], HS, nc, ns) := by
  refine mFin.step (q' := (356, lawL i, .ref 10 :: [], HS, nc, ns)) (step_fetch (i := (355, .aload_n 1, 1, 0, 0, 0)) rfl rfl) mmon_rf ?_
  refine law_arg (k := 1) (by omega) hL rfl rfl rfl rfl rfl ?_
  refine law_C (as := [.int (sc.getD (i + 1) 0)]) (st := []) hR (idx := 44) (a := 63) rfl (by decide) rfl (fun _ => rfl) (fun _ => rfl) rfl hc rfl (Nat.le_of_ble_eq_true rfl) hA (fun H1 R1 => ?_)
  refine law_pop rfl rfl ?_
  refine mFin.step (q' := (366, lawL i, .ref 141 :: [], H1, nc, ns)) (step_fetch (i := (365, .aload_n 2, 1, 0, 0, 0)) rfl rfl) mmon_rf ?_
  refine law_arg (k := 1) (by omega) hL rfl rfl rfl rfl rfl ?_
  refine law_M (as := [.int (sc.getD (i + 1) 0)]) (st := []) R1 (idx := 47) (a := 141) rfl (by decide) rfl (fun _ => rfl) (fun _ => rfl) rfl hm rfl (Nat.le_of_ble_eq_true rfl) hB (fun H2 R2 => ?_)
  refine law_pop rfl rfl ?_
  exact law_go rfl (by decide) (k H2 R2)
set_option maxRecDepth 100000 in
theorem law_case_8 {u w : Int32} (hL : sc.length < 2 ^ 31) (hi : i + 6 ≤ sc.length) (hR : LR hC hM HS) (hc : hC[10]? = some (.inr (4, vs))) (hm : hM[10]? = some (.inr (5, ws))) (hA : mEnds sc d 64 (mentry 64 (.ref 10 :: [.int (sc.getD (i + 1) 0), .int (sc.getD (i + 2) 0), .int (sc.getD (i + 3) 0)]) hC) (some (.int u), hC', 0, 0)) (hB : mEnds sc d 143 (mentry 143 (.ref 10 :: [.int (sc.getD (i + 1) 0), .int (sc.getD (i + 2) 0), .int (sc.getD (i + 3) 0)]) hM) (some (.int w), hM', 0, 0))
    (k : ∀ HS', LR hC' hM' HS' → mFin sc (d + 1) NC NS (1441, lawL i, [], HS', nc, ns)) : mFin sc (d + 1) NC NS (378, lawL i, [], HS, nc, ns) := by
  refine mFin.step (q' := (379, lawL i, .ref 10 :: [], HS, nc, ns)) (step_fetch (i := (378, .aload_n 1, 1, 0, 0, 0)) rfl rfl) mmon_rf ?_
  refine law_arg (k := 1) (by omega) hL rfl rfl rfl rfl rfl ?_
  refine law_arg (k := 2) (by omega) hL rfl rfl rfl rfl rfl ?_
  refine law_arg (k := 3) (by omega) hL rfl rfl rfl rfl rfl ?_
  refine law_C (as := [.int (sc.getD (i + 1) 0), .int (sc.getD (i + 2) 0), .int (sc.getD (i + 3) 0)]) (st := []) hR (idx := 48) (a := 64) rfl (by decide) rfl (fun _ => rfl) (fun _ => rfl) rfl hc rfl (Nat.le_of_ble_eq_true rfl) hA (fun H1 R1 => ?_)
  refine law_pop rfl rfl ?_
  refine mFin.step (q' := (399, lawL i, .ref 141 :: [], H1, nc, ns)) (step_fetch (i := (398, .aload_n 2, 1, 0, 0, 0)) rfl rfl) mmon_rf ?_
  refine law_arg (k := 1) (by omega) hL rfl rfl rfl rfl rfl ?_
  refine law_arg (k := 2) (by omega) hL rfl rfl rfl rfl rfl ?_
  refine law_arg (k := 3) (by omega) hL rfl rfl rfl rfl rfl ?_
  refine law_M (as := [.int (sc.getD (i + 1) 0), .int (sc.getD (i + 2) 0), .int (sc.getD (i + 3) 0)]) (st := []) R1 (idx := 52) (a := 143) rfl (by decide) rfl (fun _ => rfl) (fun _ => rfl) rfl hm rfl (Nat.le_of_ble_eq_true rfl) hB (fun H2 R2 => ?_)
  refine law_pop rfl rfl ?_
  exact law_go rfl (by decide) (k H2 R2)
set_option maxRecDepth 100000 in
theorem law_case_9 {u w : Int32} (hL : sc.length < 2 ^ 31) (hi : i + 6 ≤ sc.length) (hR : LR hC hM HS) (hc : hC[10]? = some (.inr (4, vs))) (hm : hM[10]? = some (.inr (5, ws))) (hA : mEnds sc d 65 (mentry 65 (.ref 10 :: [.int (sc.getD (i + 1) 0), .int (sc.getD (i + 2) 0), .int (sc.getD (i + 3) 0)]) hC) (some (.int u), hC', 0, 0)) (hB : mEnds sc d 144 (mentry 144 (.ref 10 :: [.int (sc.getD (i + 1) 0), .int (sc.getD (i + 2) 0), .int (sc.getD (i + 3) 0)]) hM) (some (.int w), hM', 0, 0))
    (k : ∀ HS', LR hC' hM' HS' → mFin sc (d + 1) NC NS (1441, lawL i, [], HS', nc, ns)) : mFin sc (d + 1) NC NS (421, lawL i, [], HS, nc, ns) := by
  refine mFin.step (q' := (422, lawL i, .ref 10 :: [], HS, nc, ns)) (step_fetch (i := (421, .aload_n 1, 1, 0, 0, 0)) rfl rfl) mmon_rf ?_
  refine law_arg (k := 1) (by omega) hL rfl rfl rfl rfl rfl ?_
  refine law_arg (k := 2) (by omega) hL rfl rfl rfl rfl rfl ?_
  refine law_arg (k := 3) (by omega) hL rfl rfl rfl rfl rfl ?_
  refine law_C (as := [.int (sc.getD (i + 1) 0), .int (sc.getD (i + 2) 0), .int (sc.getD (i + 3) 0)]) (st := []) hR (idx := 53) (a := 65) rfl (by decide) rfl (fun _ => rfl) (fun _ => rfl) rfl hc rfl (Nat.le_of_ble_eq_true rfl) hA (fun H1 R1 => ?_)
  refine law_pop rfl rfl ?_
  refine mFin.step (q' := (442, lawL i, .ref 141 :: [], H1, nc, ns)) (step_fetch (i := (441, .aload_n 2, 1, 0, 0, 0)) rfl rfl) mmon_rf ?_
  refine law_arg (k := 1) (by omega) hL rfl rfl rfl rfl rfl ?_
  refine law_arg (k := 2) (by omega) hL rfl rfl rfl rfl rfl ?_
  refine law_arg (k := 3) (by omega) hL rfl rfl rfl rfl rfl ?_
  refine law_M (as := [.int (sc.getD (i + 1) 0), .int (sc.getD (i + 2) 0), .int (sc.getD (i + 3) 0)]) (st := []) R1 (idx := 56) (a := 144) rfl (by decide) rfl (fun _ => rfl) (fun _ => rfl) rfl hm rfl (Nat.le_of_ble_eq_true rfl) hB (fun H2 R2 => ?_)
  refine law_pop rfl rfl ?_
  exact law_go rfl (by decide) (k H2 R2)
set_option maxRecDepth 100000 in
theorem law_case_10 {u w : Int32} (hL : sc.length < 2 ^ 31) (hi : i + 6 ≤ sc.length) (hR : LR hC hM HS) (hc : hC[10]? = some (.inr (4, vs))) (hm : hM[10]? = some (.inr (5, ws))) (hA : mEnds sc d 66 (mentry 66 (.ref 10 :: [.int (sc.getD (i + 1) 0)]) hC) (some (.int u), hC', 0, 0)) (hB : mEnds sc d 146 (mentry 146 (.ref 10 :: [.int (sc.getD (i + 1) 0)]) hM) (some (.int w), hM', 0, 0))
    (k : ∀ HS', LR hC' hM' HS' → mFin sc (d + 1) NC NS (1441, lawL i, [], HS', nc, ns)) : mFin sc (d + 1) NC NS (464, lawL i, [], HS, nc, ns) := by
  refine mFin.step (q' := (465, lawL i, .ref 10 :: [], HS, nc, ns)) (step_fetch (i := (464, .aload_n 1, 1, 0, 0, 0)) rfl rfl) mmon_rf ?_
  refine law_arg (k := 1) (by omega) hL rfl rfl rfl rfl rfl ?_
  refine law_C (as := [.int (sc.getD (i + 1) 0)]) (st := []) hR (idx := 57) (a := 66) rfl (by decide) rfl (fun _ => rfl) (fun _ => rfl) rfl hc rfl (Nat.le_of_ble_eq_true rfl) hA (fun H1 R1 => ?_)
  refine law_pop rfl rfl ?_
  refine mFin.step (q' := (475, lawL i, .ref 141 :: [], H1, nc, ns)) (step_fetch (i := (474, .aload_n 2, 1, 0, 0, 0)) rfl rfl) mmon_rf ?_
  refine law_arg (k := 1) (by omega) hL rfl rfl rfl rfl rfl ?_
  refine law_M (as := [.int (sc.getD (i + 1) 0)]) (st := []) R1 (idx := 60) (a := 146) rfl (by decide) rfl (fun _ => rfl) (fun _ => rfl) rfl hm rfl (Nat.le_of_ble_eq_true rfl) hB (fun H2 R2 => ?_)
  refine law_pop rfl rfl ?_
  exact law_go rfl (by decide) (k H2 R2)
set_option maxRecDepth 100000 in
theorem law_case_11 {u w : Int32} (hL : sc.length < 2 ^ 31) (hi : i + 6 ≤ sc.length) (hR : LR hC hM HS) (hc : hC[10]? = some (.inr (4, vs))) (hm : hM[10]? = some (.inr (5, ws))) (hA : mEnds sc d 67 (mentry 67 (.ref 10 :: [.int (sc.getD (i + 1) 0), .int (sc.getD (i + 2) 0)]) hC) (some (.int u), hC', 0, 0)) (hB : mEnds sc d 148 (mentry 148 (.ref 10 :: [.int (sc.getD (i + 1) 0), .int (sc.getD (i + 2) 0)]) hM) (some (.int w), hM', 0, 0))
    (k : ∀ HS', LR hC' hM' HS' → mFin sc (d + 1) NC NS (1441, lawL i, [], HS', nc, ns)) : mFin sc (d + 1) NC NS (487, lawL i, [], HS, nc, ns) := by
  refine mFin.step (q' := (488, lawL i, .ref 10 :: [], HS, nc, ns)) (step_fetch (i := (487, .aload_n 1, 1, 0, 0, 0)) rfl rfl) mmon_rf ?_
  refine law_arg (k := 1) (by omega) hL rfl rfl rfl rfl rfl ?_
  refine law_arg (k := 2) (by omega) hL rfl rfl rfl rfl rfl ?_
  refine law_C (as := [.int (sc.getD (i + 1) 0), .int (sc.getD (i + 2) 0)]) (st := []) hR (idx := 61) (a := 67) rfl (by decide) rfl (fun _ => rfl) (fun _ => rfl) rfl hc rfl (Nat.le_of_ble_eq_true rfl) hA (fun H1 R1 => ?_)
  refine law_pop rfl rfl ?_
  refine mFin.step (q' := (503, lawL i, .ref 141 :: [], H1, nc, ns)) (step_fetch (i := (502, .aload_n 2, 1, 0, 0, 0)) rfl rfl) mmon_rf ?_
  refine law_arg (k := 1) (by omega) hL rfl rfl rfl rfl rfl ?_
  refine law_arg (k := 2) (by omega) hL rfl rfl rfl rfl rfl ?_
  refine law_M (as := [.int (sc.getD (i + 1) 0), .int (sc.getD (i + 2) 0)]) (st := []) R1 (idx := 64) (a := 148) rfl (by decide) rfl (fun _ => rfl) (fun _ => rfl) rfl hm rfl (Nat.le_of_ble_eq_true rfl) hB (fun H2 R2 => ?_)
  refine law_pop rfl rfl ?_
  exact law_go rfl (by decide) (k H2 R2)
set_option maxRecDepth 100000 in
theorem law_case_12 {u w : Int32} (hL : sc.length < 2 ^ 31) (hi : i + 6 ≤ sc.length) (hR : LR hC hM HS) (hc : hC[10]? = some (.inr (4, vs))) (hm : hM[10]? = some (.inr (5, ws))) (hA : mEnds sc d 68 (mentry 68 (.ref 10 :: [.int (sc.getD (i + 1) 0), .int (sc.getD (i + 2) 0)]) hC) (some (.int u), hC', 0, 0)) (hB : mEnds sc d 149 (mentry 149 (.ref 10 :: [.int (sc.getD (i + 1) 0), .int (sc.getD (i + 2) 0)]) hM) (some (.int w), hM', 0, 0))
    (k : ∀ HS', LR hC' hM' HS' → mFin sc (d + 1) NC NS (1441, lawL i, [], HS', nc, ns)) : mFin sc (d + 1) NC NS (520, lawL i, [], HS, nc, ns) := by
  refine mFin.step (q' := (521, lawL i, .ref 10 :: [], HS, nc, ns)) (step_fetch (i := (520, .aload_n 1, 1, 0, 0, 0)) rfl rfl) mmon_rf ?_
  refine law_arg (k := 1) (by omega) hL rfl rfl rfl rfl rfl ?_
  refine law_arg (k := 2) (by omega) hL rfl rfl rfl rfl rfl ?_
  refine law_C (as := [.int (sc.getD (i + 1) 0), .int (sc.getD (i + 2) 0)]) (st := []) hR (idx := 65) (a := 68) rfl (by decide) rfl (fun _ => rfl) (fun _ => rfl) rfl hc rfl (Nat.le_of_ble_eq_true rfl) hA (fun H1 R1 => ?_)
  refine law_pop rfl rfl ?_
  refine mFin.step (q' := (536, lawL i, .ref 141 :: [], H1, nc, ns)) (step_fetch (i := (535, .aload_n 2, 1, 0, 0, 0)) rfl rfl) mmon_rf ?_
  refine law_arg (k := 1) (by omega) hL rfl rfl rfl rfl rfl ?_
  refine law_arg (k := 2) (by omega) hL rfl rfl rfl rfl rfl ?_
  refine law_M (as := [.int (sc.getD (i + 1) 0), .int (sc.getD (i + 2) 0)]) (st := []) R1 (idx := 68) (a := 149) rfl (by decide) rfl (fun _ => rfl) (fun _ => rfl) rfl hm rfl (Nat.le_of_ble_eq_true rfl) hB (fun H2 R2 => ?_)
  refine law_pop rfl rfl ?_
  exact law_go rfl (by decide) (k H2 R2)
set_option maxRecDepth 100000 in
theorem law_case_13 {u w : Int32} (hL : sc.length < 2 ^ 31) (hi : i + 6 ≤ sc.length) (hR : LR hC hM HS) (hc : hC[10]? = some (.inr (4, vs))) (hm : hM[10]? = some (.inr (5, ws))) (hA : mEnds sc d 69 (mentry 69 (.ref 10 :: [.int (sc.getD (i + 1) 0), .int (sc.getD (i + 2) 0)]) hC) (some (.int u), hC', 0, 0)) (hB : mEnds sc d 150 (mentry 150 (.ref 10 :: [.int (sc.getD (i + 1) 0), .int (sc.getD (i + 2) 0)]) hM) (some (.int w), hM', 0, 0))
    (k : ∀ HS', LR hC' hM' HS' → mFin sc (d + 1) NC NS (1441, lawL i, [], HS', nc, ns)) : mFin sc (d + 1) NC NS (553, lawL i, [], HS, nc, ns) := by
  refine mFin.step (q' := (554, lawL i, .ref 10 :: [], HS, nc, ns)) (step_fetch (i := (553, .aload_n 1, 1, 0, 0, 0)) rfl rfl) mmon_rf ?_
  refine law_arg (k := 1) (by omega) hL rfl rfl rfl rfl rfl ?_
  refine law_arg (k := 2) (by omega) hL rfl rfl rfl rfl rfl ?_
  refine law_C (as := [.int (sc.getD (i + 1) 0), .int (sc.getD (i + 2) 0)]) (st := []) hR (idx := 69) (a := 69) rfl (by decide) rfl (fun _ => rfl) (fun _ => rfl) rfl hc rfl (Nat.le_of_ble_eq_true rfl) hA (fun H1 R1 => ?_)
  refine law_pop rfl rfl ?_
  refine mFin.step (q' := (569, lawL i, .ref 141 :: [], H1, nc, ns)) (step_fetch (i := (568, .aload_n 2, 1, 0, 0, 0)) rfl rfl) mmon_rf ?_
  refine law_arg (k := 1) (by omega) hL rfl rfl rfl rfl rfl ?_
  refine law_arg (k := 2) (by omega) hL rfl rfl rfl rfl rfl ?_
  refine law_M (as := [.int (sc.getD (i + 1) 0), .int (sc.getD (i + 2) 0)]) (st := []) R1 (idx := 72) (a := 150) rfl (by decide) rfl (fun _ => rfl) (fun _ => rfl) rfl hm rfl (Nat.le_of_ble_eq_true rfl) hB (fun H2 R2 => ?_)
  refine law_pop rfl rfl ?_
  exact law_go rfl (by decide) (k H2 R2)
set_option maxRecDepth 100000 in
theorem law_case_14 {u w : Int32} (hL : sc.length < 2 ^ 31) (hi : i + 6 ≤ sc.length) (hR : LR hC hM HS) (hc : hC[10]? = some (.inr (4, vs))) (hm : hM[10]? = some (.inr (5, ws))) (hA : mEnds sc d 70 (mentry 70 (.ref 10 :: [.int (sc.getD (i + 1) 0)]) hC) (some (.int u), hC', 0, 0)) (hB : mEnds sc d 151 (mentry 151 (.ref 10 :: [.int (sc.getD (i + 1) 0)]) hM) (some (.int w), hM', 0, 0))
    (k : ∀ HS', LR hC' hM' HS' → mFin sc (d + 1) NC NS (1441, lawL i, [], HS', nc, ns)) : mFin sc (d + 1) NC NS (586, lawL i, [], HS, nc, ns) := by
  refine mFin.step (q' := (587, lawL i, .ref 10 :: [], HS, nc, ns)) (step_fetch (i := (586, .aload_n 1, 1, 0, 0, 0)) rfl rfl) mmon_rf ?_
  refine law_arg (k := 1) (by omega) hL rfl rfl rfl rfl rfl ?_
  refine law_C (as := [.int (sc.getD (i + 1) 0)]) (st := []) hR (idx := 73) (a := 70) rfl (by decide) rfl (fun _ => rfl) (fun _ => rfl) rfl hc rfl (Nat.le_of_ble_eq_true rfl) hA (fun H1 R1 => ?_)
  refine law_pop rfl rfl ?_
  refine mFin.step (q' := (597, lawL i, .ref 141 :: [], H1, nc, ns)) (step_fetch (i := (596, .aload_n 2, 1, 0, 0, 0)) rfl rfl) mmon_rf ?_
  refine law_arg (k := 1) (by omega) hL rfl rfl rfl rfl rfl ?_
  refine law_M (as := [.int (sc.getD (i + 1) 0)]) (st := []) R1 (idx := 76) (a := 151) rfl (by decide) rfl (fun _ => rfl) (fun _ => rfl) rfl hm rfl (Nat.le_of_ble_eq_true rfl) hB (fun H2 R2 => ?_)
  refine law_pop rfl rfl ?_
  exact law_go rfl (by decide) (k H2 R2)
set_option maxRecDepth 100000 in
theorem law_case_15 {u w : Int32} (hL : sc.length < 2 ^ 31) (hi : i + 6 ≤ sc.length) (hR : LR hC hM HS) (hc : hC[10]? = some (.inr (4, vs))) (hm : hM[10]? = some (.inr (5, ws))) (hA : mEnds sc d 71 (mentry 71 (.ref 10 :: [.int (sc.getD (i + 1) 0), .int (sc.getD (i + 2) 0)]) hC) (some (.int u), hC', 0, 0)) (hB : mEnds sc d 154 (mentry 154 (.ref 10 :: [.int (sc.getD (i + 1) 0), .int (sc.getD (i + 2) 0)]) hM) (some (.int w), hM', 0, 0))
    (k : ∀ HS', LR hC' hM' HS' → mFin sc (d + 1) NC NS (1441, lawL i, [], HS', nc, ns)) : mFin sc (d + 1) NC NS (609, lawL i, [], HS, nc, ns) := by
  refine mFin.step (q' := (610, lawL i, .ref 10 :: [], HS, nc, ns)) (step_fetch (i := (609, .aload_n 1, 1, 0, 0, 0)) rfl rfl) mmon_rf ?_
  refine law_arg (k := 1) (by omega) hL rfl rfl rfl rfl rfl ?_
  refine law_arg (k := 2) (by omega) hL rfl rfl rfl rfl rfl ?_
  refine law_C (as := [.int (sc.getD (i + 1) 0), .int (sc.getD (i + 2) 0)]) (st := []) hR (idx := 77) (a := 71) rfl (by decide) rfl (fun _ => rfl) (fun _ => rfl) rfl hc rfl (Nat.le_of_ble_eq_true rfl) hA (fun H1 R1 => ?_)
  refine law_pop rfl rfl ?_
  refine mFin.step (q' := (625, lawL i, .ref 141 :: [], H1, nc, ns)) (step_fetch (i := (624, .aload_n 2, 1, 0, 0, 0)) rfl rfl) mmon_rf ?_
  refine law_arg (k := 1) (by omega) hL rfl rfl rfl rfl rfl ?_
  refine law_arg (k := 2) (by omega) hL rfl rfl rfl rfl rfl ?_
  refine law_M (as := [.int (sc.getD (i + 1) 0), .int (sc.getD (i + 2) 0)]) (st := []) R1 (idx := 80) (a := 154) rfl (by decide) rfl (fun _ => rfl) (fun _ => rfl) rfl hm rfl (Nat.le_of_ble_eq_true rfl) hB (fun H2 R2 => ?_)
  refine law_pop rfl rfl ?_
  exact law_go rfl (by decide) (k H2 R2)
set_option maxRecDepth 100000 in
theorem law_case_16 {u w : Int32} (hL : sc.length < 2 ^ 31) (hi : i + 6 ≤ sc.length) (hR : LR hC hM HS) (hc : hC[10]? = some (.inr (4, vs))) (hm : hM[10]? = some (.inr (5, ws))) (hA : mEnds sc d 73 (mentry 73 (.ref 10 :: [.int (sc.getD (i + 1) 0), .int (sc.getD (i + 2) 0), .int (sc.getD (i + 3) 0)]) hC) (some (.int u), hC', 0, 0)) (hB : mEnds sc d 155 (mentry 155 (.ref 10 :: [.int (sc.getD (i + 1) 0), .int (sc.getD (i + 2) 0), .int (sc.getD (i + 3) 0)]) hM) (some (.int w), hM', 0, 0))
    (k : ∀ HS', LR hC' hM' HS' → mFin sc (d + 1) NC NS (1441, lawL i, [], HS', nc, ns)) : mFin sc (d + 1) NC NS (642, lawL i, [], HS, nc, ns) := by
  refine mFin.step (q' := (643, lawL i, .ref 10 :: [], HS, nc, ns)) (step_fetch (i := (642, .aload_n 1, 1, 0, 0, 0)) rfl rfl) mmon_rf ?_
  refine law_arg (k := 1) (by omega) hL rfl rfl rfl rfl rfl ?_
  refine law_arg (k := 2) (by omega) hL rfl rfl rfl rfl rfl ?_
  refine law_arg (k := 3) (by omega) hL rfl rfl rfl rfl rfl ?_
  refine law_C (as := [.int (sc.getD (i + 1) 0), .int (sc.getD (i + 2) 0), .int (sc.getD (i + 3) 0)]) (st := []) hR (idx := 81) (a := 73) rfl (by decide) rfl (fun _ => rfl) (fun _ => rfl) rfl hc rfl (Nat.le_of_ble_eq_true rfl) hA (fun H1 R1 => ?_)
  refine law_pop rfl rfl ?_
  refine mFin.step (q' := (663, lawL i, .ref 141 :: [], H1, nc, ns)) (step_fetch (i := (662, .aload_n 2, 1, 0, 0, 0)) rfl rfl) mmon_rf ?_
  refine law_arg (k := 1) (by omega) hL rfl rfl rfl rfl rfl ?_
  refine law_arg (k := 2) (by omega) hL rfl rfl rfl rfl rfl ?_
  refine law_arg (k := 3) (by omega) hL rfl rfl rfl rfl rfl ?_
  refine law_M (as := [.int (sc.getD (i + 1) 0), .int (sc.getD (i + 2) 0), .int (sc.getD (i + 3) 0)]) (st := []) R1 (idx := 84) (a := 155) rfl (by decide) rfl (fun _ => rfl) (fun _ => rfl) rfl hm rfl (Nat.le_of_ble_eq_true rfl) hB (fun H2 R2 => ?_)
  refine law_pop rfl rfl ?_
  exact law_go rfl (by decide) (k H2 R2)
set_option maxRecDepth 100000 in
theorem law_case_17 {u w : Int32} (hL : sc.length < 2 ^ 31) (hi : i + 6 ≤ sc.length) (hR : LR hC hM HS) (hc : hC[10]? = some (.inr (4, vs))) (hm : hM[10]? = some (.inr (5, ws))) (hA : mEnds sc d 74 (mentry 74 (.ref 10 :: [.int (sc.getD (i + 1) 0), .int (sc.getD (i + 2) 0)]) hC) (some (.int u), hC', 0, 0)) (hB : mEnds sc d 156 (mentry 156 (.ref 10 :: [.int (sc.getD (i + 1) 0), .int (sc.getD (i + 2) 0)]) hM) (some (.int w), hM', 0, 0))
    (k : ∀ HS', LR hC' hM' HS' → mFin sc (d + 1) NC NS (1441, lawL i, [], HS', nc, ns)) : mFin sc (d + 1) NC NS (685, lawL i, [], HS, nc, ns) := by
  refine mFin.step (q' := (686, lawL i, .ref 10 :: [], HS, nc, ns)) (step_fetch (i := (685, .aload_n 1, 1, 0, 0, 0)) rfl rfl) mmon_rf ?_
  refine law_arg (k := 1) (by omega) hL rfl rfl rfl rfl rfl ?_
  refine law_arg (k := 2) (by omega) hL rfl rfl rfl rfl rfl ?_
  refine law_C (as := [.int (sc.getD (i + 1) 0), .int (sc.getD (i + 2) 0)]) (st := []) hR (idx := 85) (a := 74) rfl (by decide) rfl (fun _ => rfl) (fun _ => rfl) rfl hc rfl (Nat.le_of_ble_eq_true rfl) hA (fun H1 R1 => ?_)
  refine law_pop rfl rfl ?_
  refine mFin.step (q' := (701, lawL i, .ref 141 :: [], H1, nc, ns)) (step_fetch (i := (700, .aload_n 2, 1, 0, 0, 0)) rfl rfl) mmon_rf ?_
  refine law_arg (k := 1) (by omega) hL rfl rfl rfl rfl rfl ?_
  refine law_arg (k := 2) (by omega) hL rfl rfl rfl rfl rfl ?_
  refine law_M (as := [.int (sc.getD (i + 1) 0), .int (sc.getD (i + 2) 0)]) (st := []) R1 (idx := 88) (a := 156) rfl (by decide) rfl (fun _ => rfl) (fun _ => rfl) rfl hm rfl (Nat.le_of_ble_eq_true rfl) hB (fun H2 R2 => ?_)
  refine law_pop rfl rfl ?_
  exact law_go rfl (by decide) (k H2 R2)
set_option maxRecDepth 100000 in
theorem law_case_18 {u w : Int32} (hL : sc.length < 2 ^ 31) (hi : i + 6 ≤ sc.length) (hR : LR hC hM HS) (hc : hC[10]? = some (.inr (4, vs))) (hm : hM[10]? = some (.inr (5, ws))) (hA : mEnds sc d 75 (mentry 75 (.ref 10 :: []) hC) (some (.int u), hC', 0, 0)) (hB : mEnds sc d 157 (mentry 157 (.ref 10 :: []) hM) (some (.int w), hM', 0, 0))
    (k : ∀ HS', LR hC' hM' HS' → mFin sc (d + 1) NC NS (1441, lawL i, [], HS', nc, ns)) : mFin sc (d + 1) NC NS (718, lawL i, [], HS, nc, ns) := by
  refine mFin.step (q' := (719, lawL i, .ref 10 :: [], HS, nc, ns)) (step_fetch (i := (718, .aload_n 1, 1, 0, 0, 0)) rfl rfl) mmon_rf ?_
  refine law_C (as := []) (st := []) hR (idx := 89) (a := 75) rfl (by decide) rfl (fun _ => rfl) (fun _ => rfl) rfl hc rfl (Nat.le_of_ble_eq_true rfl) hA (fun H1 R1 => ?_)
  refine law_pop rfl rfl ?_
  refine mFin.step (q' := (724, lawL i, .ref 141 :: [], H1, nc, ns)) (step_fetch (i := (723, .aload_n 2, 1, 0, 0, 0)) rfl rfl) mmon_rf ?_
  refine law_M (as := []) (st := []) R1 (idx := 92) (a := 157) rfl (by decide) rfl (fun _ => rfl) (fun _ => rfl) rfl hm rfl (Nat.le_of_ble_eq_true rfl) hB (fun H2 R2 => ?_)
  refine law_pop rfl rfl ?_
  exact law_go rfl (by decide) (k H2 R2)
set_option maxRecDepth 100000 in
theorem law_case_19 {u w : Int32} (hL : sc.length < 2 ^ 31) (hi : i + 6 ≤ sc.length) (hR : LR hC hM HS) (hc : hC[10]? = some (.inr (4, vs))) (hm : hM[10]? = some (.inr (5, ws))) (hA : mEnds sc d 76 (mentry 76 (.ref 10 :: [.int (sc.getD (i + 1) 0), .int (sc.getD (i + 2) 0), .int (sc.getD (i + 3) 0)]) hC) (some (.int u), hC', 0, 0)) (hB : mEnds sc d 159 (mentry 159 (.ref 10 :: [.int (sc.getD (i + 1) 0), .int (sc.getD (i + 2) 0), .int (sc.getD (i + 3) 0)]) hM) (some (.int w), hM', 0, 0))
    (k : ∀ HS', LR hC' hM' HS' → mFin sc (d + 1) NC NS (1441, lawL i, [], HS', nc, ns)) : mFin sc (d + 1) NC NS (731, lawL i, [], HS, nc, ns) := by
  refine mFin.step (q' := (732, lawL i, .ref 10 :: [], HS, nc, ns)) (step_fetch (i := (731, .aload_n 1, 1, 0, 0, 0)) rfl rfl) mmon_rf ?_
  refine law_arg (k := 1) (by omega) hL rfl rfl rfl rfl rfl ?_
  refine law_arg (k := 2) (by omega) hL rfl rfl rfl rfl rfl ?_
  refine law_arg (k := 3) (by omega) hL rfl rfl rfl rfl rfl ?_
  refine law_C (as := [.int (sc.getD (i + 1) 0), .int (sc.getD (i + 2) 0), .int (sc.getD (i + 3) 0)]) (st := []) hR (idx := 93) (a := 76) rfl (by decide) rfl (fun _ => rfl) (fun _ => rfl) rfl hc rfl (Nat.le_of_ble_eq_true rfl) hA (fun H1 R1 => ?_)
  refine law_pop rfl rfl ?_
  refine mFin.step (q' := (752, lawL i, .ref 141 :: [], H1, nc, ns)) (step_fetch (i := (751, .aload_n 2, 1, 0, 0, 0)) rfl rfl) mmon_rf ?_
  refine law_arg (k := 1) (by omega) hL rfl rfl rfl rfl rfl ?_
  refine law_arg (k := 2) (by omega) hL rfl rfl rfl rfl rfl ?_
  refine law_arg (k := 3) (by omega) hL rfl rfl rfl rfl rfl ?_
  refine law_M (as := [.int (sc.getD (i + 1) 0), .int (sc.getD (i + 2) 0), .int (sc.getD (i + 3) 0)]) (st := []) R1 (idx := 96) (a := 159) rfl (by decide) rfl (fun _ => rfl) (fun _ => rfl) rfl hm rfl (Nat.le_of_ble_eq_true rfl) hB (fun H2 R2 => ?_)
  refine law_pop rfl rfl ?_
  exact law_go rfl (by decide) (k H2 R2)
set_option maxRecDepth 100000 in
theorem law_case_20 {u w : Int32} (hL : sc.length < 2 ^ 31) (hi : i + 6 ≤ sc.length) (hR : LR hC hM HS) (hc : hC[10]? = some (.inr (4, vs))) (hm : hM[10]? = some (.inr (5, ws))) (hA : mEnds sc d 77 (mentry 77 (.ref 10 :: [.int (sc.getD (i + 1) 0), .int (sc.getD (i + 2) 0), .int (sc.getD (i + 3) 0)]) hC) (some (.int u), hC', 0, 0)) (hB : mEnds sc d 160 (mentry 160 (.ref 10 :: [.int (sc.getD (i + 1) 0), .int (sc.getD (i + 2) 0), .int (sc.getD (i + 3) 0)]) hM) (some (.int w), hM', 0, 0))
    (k : ∀ HS', LR hC' hM' HS' → mFin sc (d + 1) NC NS (1441, lawL i, [], HS', nc, ns)) : mFin sc (d + 1) NC NS (774, lawL i, [], HS, nc, ns) := by
  refine mFin.step (q' := (775, lawL i, .ref 10 :: [], HS, nc, ns)) (step_fetch (i := (774, .aload_n 1, 1, 0, 0, 0)) rfl rfl) mmon_rf ?_
  refine law_arg (k := 1) (by omega) hL rfl rfl rfl rfl rfl ?_
  refine law_arg (k := 2) (by omega) hL rfl rfl rfl rfl rfl ?_
  refine law_arg (k := 3) (by omega) hL rfl rfl rfl rfl rfl ?_
  refine law_C (as := [.int (sc.getD (i + 1) 0), .int (sc.getD (i + 2) 0), .int (sc.getD (i + 3) 0)]) (st := []) hR (idx := 97) (a := 77) rfl (by decide) rfl (fun _ => rfl) (fun _ => rfl) rfl hc rfl (Nat.le_of_ble_eq_true rfl) hA (fun H1 R1 => ?_)
  refine law_pop rfl rfl ?_
  refine mFin.step (q' := (795, lawL i, .ref 141 :: [], H1, nc, ns)) (step_fetch (i := (794, .aload_n 2, 1, 0, 0, 0)) rfl rfl) mmon_rf ?_
  refine law_arg (k := 1) (by omega) hL rfl rfl rfl rfl rfl ?_
  refine law_arg (k := 2) (by omega) hL rfl rfl rfl rfl rfl ?_
  refine law_arg (k := 3) (by omega) hL rfl rfl rfl rfl rfl ?_
  refine law_M (as := [.int (sc.getD (i + 1) 0), .int (sc.getD (i + 2) 0), .int (sc.getD (i + 3) 0)]) (st := []) R1 (idx := 100) (a := 160) rfl (by decide) rfl (fun _ => rfl) (fun _ => rfl) rfl hm rfl (Nat.le_of_ble_eq_true rfl) hB (fun H2 R2 => ?_)
  refine law_pop rfl rfl ?_
  exact law_go rfl (by decide) (k H2 R2)
set_option maxRecDepth 100000 in
theorem law_case_21 {u w : Int32} (hL : sc.length < 2 ^ 31) (hi : i + 6 ≤ sc.length) (hR : LR hC hM HS) (hc : hC[10]? = some (.inr (4, vs))) (hm : hM[10]? = some (.inr (5, ws))) (hA : mEnds sc d 78 (mentry 78 (.ref 10 :: [.int (sc.getD (i + 1) 0), .int (sc.getD (i + 2) 0)]) hC) (some (.int u), hC', 0, 0)) (hB : mEnds sc d 161 (mentry 161 (.ref 10 :: [.int (sc.getD (i + 1) 0), .int (sc.getD (i + 2) 0)]) hM) (some (.int w), hM', 0, 0))
    (k : ∀ HS', LR hC' hM' HS' → mFin sc (d + 1) NC NS (1441, lawL i, [], HS', nc, ns)) : mFin sc (d + 1) NC NS (817, lawL i, [], HS, nc, ns) := by
  refine mFin.step (q' := (818, lawL i, .ref 10 :: [], HS, nc, ns)) (step_fetch (i := (817, .aload_n 1, 1, 0, 0, 0)) rfl rfl) mmon_rf ?_
  refine law_arg (k := 1) (by omega) hL rfl rfl rfl rfl rfl ?_
  refine law_arg (k := 2) (by omega) hL rfl rfl rfl rfl rfl ?_
  refine law_C (as := [.int (sc.getD (i + 1) 0), .int (sc.getD (i + 2) 0)]) (st := []) hR (idx := 101) (a := 78) rfl (by decide) rfl (fun _ => rfl) (fun _ => rfl) rfl hc rfl (Nat.le_of_ble_eq_true rfl) hA (fun H1 R1 => ?_)
  refine law_pop rfl rfl ?_
  refine mFin.step (q' := (833, lawL i, .ref 141 :: [], H1, nc, ns)) (step_fetch (i := (832, .aload_n 2, 1, 0, 0, 0)) rfl rfl) mmon_rf ?_
  refine law_arg (k := 1) (by omega) hL rfl rfl rfl rfl rfl ?_
  refine law_arg (k := 2) (by omega) hL rfl rfl rfl rfl rfl ?_
  refine law_M (as := [.int (sc.getD (i + 1) 0), .int (sc.getD (i + 2) 0)]) (st := []) R1 (idx := 104) (a := 161) rfl (by decide) rfl (fun _ => rfl) (fun _ => rfl) rfl hm rfl (Nat.le_of_ble_eq_true rfl) hB (fun H2 R2 => ?_)
  refine law_pop rfl rfl ?_
  exact law_go rfl (by decide) (k H2 R2)
set_option maxRecDepth 100000 in
theorem law_case_22 {u w : Int32} (hL : sc.length < 2 ^ 31) (hi : i + 6 ≤ sc.length) (hR : LR hC hM HS) (hc : hC[10]? = some (.inr (4, vs))) (hm : hM[10]? = some (.inr (5, ws))) (hA : mEnds sc d 79 (mentry 79 (.ref 10 :: [.int (sc.getD (i + 1) 0), .int (sc.getD (i + 2) 0)]) hC) (some (.int u), hC', 0, 0)) (hB : mEnds sc d 162 (mentry 162 (.ref 10 :: [.int (sc.getD (i + 1) 0), .int (sc.getD (i + 2) 0)]) hM) (some (.int w), hM', 0, 0))
    (k : ∀ HS', LR hC' hM' HS' → mFin sc (d + 1) NC NS (1441, lawL i, [], HS', nc, ns)) : mFin sc (d + 1) NC NS (850, lawL i, [], HS, nc, ns) := by
  refine mFin.step (q' := (851, lawL i, .ref 10 :: [], HS, nc, ns)) (step_fetch (i := (850, .aload_n 1, 1, 0, 0, 0)) rfl rfl) mmon_rf ?_
  refine law_arg (k := 1) (by omega) hL rfl rfl rfl rfl rfl ?_
  refine law_arg (k := 2) (by omega) hL rfl rfl rfl rfl rfl ?_
  refine law_C (as := [.int (sc.getD (i + 1) 0), .int (sc.getD (i + 2) 0)]) (st := []) hR (idx := 105) (a := 79) rfl (by decide) rfl (fun _ => rfl) (fun _ => rfl) rfl hc rfl (Nat.le_of_ble_eq_true rfl) hA (fun H1 R1 => ?_)
  refine law_pop rfl rfl ?_
  refine mFin.step (q' := (866, lawL i, .ref 141 :: [], H1, nc, ns)) (step_fetch (i := (865, .aload_n 2, 1, 0, 0, 0)) rfl rfl) mmon_rf ?_
  refine law_arg (k := 1) (by omega) hL rfl rfl rfl rfl rfl ?_
  refine law_arg (k := 2) (by omega) hL rfl rfl rfl rfl rfl ?_
  refine law_M (as := [.int (sc.getD (i + 1) 0), .int (sc.getD (i + 2) 0)]) (st := []) R1 (idx := 108) (a := 162) rfl (by decide) rfl (fun _ => rfl) (fun _ => rfl) rfl hm rfl (Nat.le_of_ble_eq_true rfl) hB (fun H2 R2 => ?_)
  refine law_pop rfl rfl ?_
  exact law_go rfl (by decide) (k H2 R2)
set_option maxRecDepth 100000 in
theorem law_case_23 {u w : Int32} (hL : sc.length < 2 ^ 31) (hi : i + 6 ≤ sc.length) (hR : LR hC hM HS) (hc : hC[10]? = some (.inr (4, vs))) (hm : hM[10]? = some (.inr (5, ws))) (hA : mEnds sc d 80 (mentry 80 (.ref 10 :: [.int (sc.getD (i + 1) 0), .int (sc.getD (i + 2) 0), .int (sc.getD (i + 3) 0)]) hC) (some (.int u), hC', 0, 0)) (hB : mEnds sc d 163 (mentry 163 (.ref 10 :: [.int (sc.getD (i + 1) 0), .int (sc.getD (i + 2) 0), .int (sc.getD (i + 3) 0)]) hM) (some (.int w), hM', 0, 0))
    (k : ∀ HS', LR hC' hM' HS' → mFin sc (d + 1) NC NS (1441, lawL i, [], HS', nc, ns)) : mFin sc (d + 1) NC NS (883, lawL i, [], HS, nc, ns) := by
  refine mFin.step (q' := (884, lawL i, .ref 10 :: [], HS, nc, ns)) (step_fetch (i := (883, .aload_n 1, 1, 0, 0, 0)) rfl rfl) mmon_rf ?_
  refine law_arg (k := 1) (by omega) hL rfl rfl rfl rfl rfl ?_
  refine law_arg (k := 2) (by omega) hL rfl rfl rfl rfl rfl ?_
  refine law_arg (k := 3) (by omega) hL rfl rfl rfl rfl rfl ?_
  refine law_C (as := [.int (sc.getD (i + 1) 0), .int (sc.getD (i + 2) 0), .int (sc.getD (i + 3) 0)]) (st := []) hR (idx := 109) (a := 80) rfl (by decide) rfl (fun _ => rfl) (fun _ => rfl) rfl hc rfl (Nat.le_of_ble_eq_true rfl) hA (fun H1 R1 => ?_)
  refine law_pop rfl rfl ?_
  refine mFin.step (q' := (904, lawL i, .ref 141 :: [], H1, nc, ns)) (step_fetch (i := (903, .aload_n 2, 1, 0, 0, 0)) rfl rfl) mmon_rf ?_
  refine law_arg (k := 1) (by omega) hL rfl rfl rfl rfl rfl ?_
  refine law_arg (k := 2) (by omega) hL rfl rfl rfl rfl rfl ?_
  refine law_arg (k := 3) (by omega) hL rfl rfl rfl rfl rfl ?_
  refine law_M (as := [.int (sc.getD (i + 1) 0), .int (sc.getD (i + 2) 0), .int (sc.getD (i + 3) 0)]) (st := []) R1 (idx := 112) (a := 163) rfl (by decide) rfl (fun _ => rfl) (fun _ => rfl) rfl hm rfl (Nat.le_of_ble_eq_true rfl) hB (fun H2 R2 => ?_)
  refine law_pop rfl rfl ?_
  exact law_go rfl (by decide) (k H2 R2)
set_option maxRecDepth 100000 in
theorem law_case_24 {u w : Int64} (hL : sc.length < 2 ^ 31) (hi : i + 6 ≤ sc.length) (hR : LR hC hM HS) (hc : hC[10]? = some (.inr (4, vs))) (hm : hM[10]? = some (.inr (5, ws))) (hA : mEnds sc d 81 (mentry 81 (.ref 10 :: [.int (sc.getD (i + 1) 0), .int (sc.getD (i + 2) 0), .int (sc.getD (i + 3) 0), .int (sc.getD (i + 4) 0), .int (sc.getD (i + 5) 0)]) hC) (some (.long u), hC', 0, 0)) (hB : mEnds sc d 166 (mentry 166 (.ref 10 :: [.int (sc.getD (i + 1) 0), .int (sc.getD (i + 2) 0), .int (sc.getD (i + 3) 0), .int (sc.getD (i + 4) 0), .int (sc.getD (i + 5) 0)]) hM) (some (.long w), hM', 0, 0))
    (k : ∀ HS', LR hC' hM' HS' → mFin sc (d + 1) NC NS (1441, lawL i, [], HS', nc, ns)) : mFin sc (d + 1) NC NS (926, lawL i, [], HS, nc, ns) := by
  refine mFin.step (q' := (927, lawL i, .ref 10 :: [], HS, nc, ns)) (step_fetch (i := (926, .aload_n 1, 1, 0, 0, 0)) rfl rfl) mmon_rf ?_
  refine law_arg (k := 1) (by omega) hL rfl rfl rfl rfl rfl ?_
  refine law_arg (k := 2) (by omega) hL rfl rfl rfl rfl rfl ?_
  refine law_arg (k := 3) (by omega) hL rfl rfl rfl rfl rfl ?_
  refine law_arg (k := 4) (by omega) hL rfl rfl rfl rfl rfl ?_
  refine law_arg (k := 5) (by omega) hL rfl rfl rfl rfl rfl ?_
  refine law_C (as := [.int (sc.getD (i + 1) 0), .int (sc.getD (i + 2) 0), .int (sc.getD (i + 3) 0), .int (sc.getD (i + 4) 0), .int (sc.getD (i + 5) 0)]) (st := []) hR (idx := 113) (a := 81) rfl (by decide) rfl (fun _ => rfl) (fun _ => rfl) rfl hc rfl (Nat.le_of_ble_eq_true rfl) hA (fun H1 R1 => ?_)
  refine law_pop2 rfl rfl ?_
  refine mFin.step (q' := (957, lawL i, .ref 141 :: [], H1, nc, ns)) (step_fetch (i := (956, .aload_n 2, 1, 0, 0, 0)) rfl rfl) mmon_rf ?_
  refine law_arg (k := 1) (by omega) hL rfl rfl rfl rfl rfl ?_
  refine law_arg (k := 2) (by omega) hL rfl rfl rfl rfl rfl ?_
  refine law_arg (k := 3) (by omega) hL rfl rfl rfl rfl rfl ?_
  refine law_arg (k := 4) (by omega) hL rfl rfl rfl rfl rfl ?_
  refine law_arg (k := 5) (by omega) hL rfl rfl rfl rfl rfl ?_
  refine law_M (as := [.int (sc.getD (i + 1) 0), .int (sc.getD (i + 2) 0), .int (sc.getD (i + 3) 0), .int (sc.getD (i + 4) 0), .int (sc.getD (i + 5) 0)]) (st := []) R1 (idx := 117) (a := 166) rfl (by decide) rfl (fun _ => rfl) (fun _ => rfl) rfl hm rfl (Nat.le_of_ble_eq_true rfl) hB (fun H2 R2 => ?_)
  refine law_pop2 rfl rfl ?_
  exact law_go rfl (by decide) (k H2 R2)
set_option maxRecDepth 100000 in
theorem law_case_25 {u w : Int64} (hL : sc.length < 2 ^ 31) (hi : i + 6 ≤ sc.length) (hR : LR hC hM HS) (hc : hC[10]? = some (.inr (4, vs))) (hm : hM[10]? = some (.inr (5, ws))) (hA : mEnds sc d 82 (mentry 82 (.ref 10 :: [.int (sc.getD (i + 1) 0), .int (sc.getD (i + 2) 0), .int (sc.getD (i + 3) 0)]) hC) (some (.long u), hC', 0, 0)) (hB : mEnds sc d 167 (mentry 167 (.ref 10 :: [.int (sc.getD (i + 1) 0), .int (sc.getD (i + 2) 0), .int (sc.getD (i + 3) 0)]) hM) (some (.long w), hM', 0, 0))
    (k : ∀ HS', LR hC' hM' HS' → mFin sc (d + 1) NC NS (1441, lawL i, [], HS', nc, ns)) : mFin sc (d + 1) NC NS (989, lawL i, [], HS, nc, ns) := by
  refine mFin.step (q' := (990, lawL i, .ref 10 :: [], HS, nc, ns)) (step_fetch (i := (989, .aload_n 1, 1, 0, 0, 0)) rfl rfl) mmon_rf ?_
  refine law_arg (k := 1) (by omega) hL rfl rfl rfl rfl rfl ?_
  refine law_arg (k := 2) (by omega) hL rfl rfl rfl rfl rfl ?_
  refine law_arg (k := 3) (by omega) hL rfl rfl rfl rfl rfl ?_
  refine law_C (as := [.int (sc.getD (i + 1) 0), .int (sc.getD (i + 2) 0), .int (sc.getD (i + 3) 0)]) (st := []) hR (idx := 118) (a := 82) rfl (by decide) rfl (fun _ => rfl) (fun _ => rfl) rfl hc rfl (Nat.le_of_ble_eq_true rfl) hA (fun H1 R1 => ?_)
  refine law_pop2 rfl rfl ?_
  refine mFin.step (q' := (1010, lawL i, .ref 141 :: [], H1, nc, ns)) (step_fetch (i := (1009, .aload_n 2, 1, 0, 0, 0)) rfl rfl) mmon_rf ?_
  refine law_arg (k := 1) (by omega) hL rfl rfl rfl rfl rfl ?_
  refine law_arg (k := 2) (by omega) hL rfl rfl rfl rfl rfl ?_
  refine law_arg (k := 3) (by omega) hL rfl rfl rfl rfl rfl ?_
  refine law_M (as := [.int (sc.getD (i + 1) 0), .int (sc.getD (i + 2) 0), .int (sc.getD (i + 3) 0)]) (st := []) R1 (idx := 122) (a := 167) rfl (by decide) rfl (fun _ => rfl) (fun _ => rfl) rfl hm rfl (Nat.le_of_ble_eq_true rfl) hB (fun H2 R2 => ?_)
  refine law_pop2 rfl rfl ?_
  exact law_go rfl (by decide) (k H2 R2)
set_option maxRecDepth 100000 in
theorem law_case_26 {u w : Int32} (hL : sc.length < 2 ^ 31) (hi : i + 6 ≤ sc.length) (hR : LR hC hM HS) (hc : hC[10]? = some (.inr (4, vs))) (hm : hM[10]? = some (.inr (5, ws))) (hA : mEnds sc d 89 (mentry 89 (.ref 10 :: [.int (sc.getD (i + 1) 0), .int (sc.getD (i + 2) 0), .int (sc.getD (i + 3) 0)]) hC) (some (.int u), hC', 0, 0)) (hB : mEnds sc d 168 (mentry 168 (.ref 10 :: [.int (sc.getD (i + 1) 0), .int (sc.getD (i + 2) 0), .int (sc.getD (i + 3) 0)]) hM) (some (.int w), hM', 0, 0))
    (k : ∀ HS', LR hC' hM' HS' → mFin sc (d + 1) NC NS (1441, lawL i, [], HS', nc, ns)) : mFin sc (d + 1) NC NS (1032, lawL i, [], HS, nc, ns) := by
  refine mFin.step (q' := (1033, lawL i, .ref 10 :: [], HS, nc, ns)) (step_fetch (i := (1032, .aload_n 1, 1, 0, 0, 0)) rfl rfl) mmon_rf ?_
  refine law_arg (k := 1) (by omega) hL rfl rfl rfl rfl rfl ?_
  refine law_arg (k := 2) (by omega) hL rfl rfl rfl rfl rfl ?_
  refine law_arg (k := 3) (by omega) hL rfl rfl rfl rfl rfl ?_
  refine law_C (as := [.int (sc.getD (i + 1) 0), .int (sc.getD (i + 2) 0), .int (sc.getD (i + 3) 0)]) (st := []) hR (idx := 123) (a := 89) rfl (by decide) rfl (fun _ => rfl) (fun _ => rfl) rfl hc rfl (Nat.le_of_ble_eq_true rfl) hA (fun H1 R1 => ?_)
  refine law_pop rfl rfl ?_
  refine mFin.step (q' := (1053, lawL i, .ref 141 :: [], H1, nc, ns)) (step_fetch (i := (1052, .aload_n 2, 1, 0, 0, 0)) rfl rfl) mmon_rf ?_
  refine law_arg (k := 1) (by omega) hL rfl rfl rfl rfl rfl ?_
  refine law_arg (k := 2) (by omega) hL rfl rfl rfl rfl rfl ?_
  refine law_arg (k := 3) (by omega) hL rfl rfl rfl rfl rfl ?_
  refine law_M (as := [.int (sc.getD (i + 1) 0), .int (sc.getD (i + 2) 0), .int (sc.getD (i + 3) 0)]) (st := []) R1 (idx := 126) (a := 168) rfl (by decide) rfl (fun _ => rfl) (fun _ => rfl) rfl hm rfl (Nat.le_of_ble_eq_true rfl) hB (fun H2 R2 => ?_)
  refine law_pop rfl rfl ?_
  exact law_go rfl (by decide) (k H2 R2)
set_option maxRecDepth 100000 in
theorem law_case_27 {u w : Int32} (hL : sc.length < 2 ^ 31) (hi : i + 6 ≤ sc.length) (hR : LR hC hM HS) (hc : hC[10]? = some (.inr (4, vs))) (hm : hM[10]? = some (.inr (5, ws))) (hA : mEnds sc d 90 (mentry 90 (.ref 10 :: [.int (sc.getD (i + 1) 0)]) hC) (some (.int u), hC', 0, 0)) (hB : mEnds sc d 169 (mentry 169 (.ref 10 :: [.int (sc.getD (i + 1) 0)]) hM) (some (.int w), hM', 0, 0))
    (k : ∀ HS', LR hC' hM' HS' → mFin sc (d + 1) NC NS (1441, lawL i, [], HS', nc, ns)) : mFin sc (d + 1) NC NS (1075, lawL i, [], HS, nc, ns) := by
  refine mFin.step (q' := (1076, lawL i, .ref 10 :: [], HS, nc, ns)) (step_fetch (i := (1075, .aload_n 1, 1, 0, 0, 0)) rfl rfl) mmon_rf ?_
  refine law_arg (k := 1) (by omega) hL rfl rfl rfl rfl rfl ?_
  refine law_C (as := [.int (sc.getD (i + 1) 0)]) (st := []) hR (idx := 127) (a := 90) rfl (by decide) rfl (fun _ => rfl) (fun _ => rfl) rfl hc rfl (Nat.le_of_ble_eq_true rfl) hA (fun H1 R1 => ?_)
  refine law_pop rfl rfl ?_
  refine mFin.step (q' := (1086, lawL i, .ref 141 :: [], H1, nc, ns)) (step_fetch (i := (1085, .aload_n 2, 1, 0, 0, 0)) rfl rfl) mmon_rf ?_
  refine law_arg (k := 1) (by omega) hL rfl rfl rfl rfl rfl ?_
  refine law_M (as := [.int (sc.getD (i + 1) 0)]) (st := []) R1 (idx := 130) (a := 169) rfl (by decide) rfl (fun _ => rfl) (fun _ => rfl) rfl hm rfl (Nat.le_of_ble_eq_true rfl) hB (fun H2 R2 => ?_)
  refine law_pop rfl rfl ?_
  exact law_go rfl (by decide) (k H2 R2)
set_option maxRecDepth 100000 in
theorem law_case_28 {u w : Int32} (hL : sc.length < 2 ^ 31) (hi : i + 6 ≤ sc.length) (hR : LR hC hM HS) (hc : hC[10]? = some (.inr (4, vs))) (hm : hM[10]? = some (.inr (5, ws))) (hA : mEnds sc d 91 (mentry 91 (.ref 10 :: [.int (sc.getD (i + 1) 0)]) hC) (some (.int u), hC', 0, 0)) (hB : mEnds sc d 172 (mentry 172 (.ref 10 :: [.int (sc.getD (i + 1) 0)]) hM) (some (.int w), hM', 0, 0))
    (k : ∀ HS', LR hC' hM' HS' → mFin sc (d + 1) NC NS (1441, lawL i, [], HS', nc, ns)) : mFin sc (d + 1) NC NS (1098, lawL i, [], HS, nc, ns) := by
  refine mFin.step (q' := (1099, lawL i, .ref 10 :: [], HS, nc, ns)) (step_fetch (i := (1098, .aload_n 1, 1, 0, 0, 0)) rfl rfl) mmon_rf ?_
  refine law_arg (k := 1) (by omega) hL rfl rfl rfl rfl rfl ?_
  refine law_C (as := [.int (sc.getD (i + 1) 0)]) (st := []) hR (idx := 131) (a := 91) rfl (by decide) rfl (fun _ => rfl) (fun _ => rfl) rfl hc rfl (Nat.le_of_ble_eq_true rfl) hA (fun H1 R1 => ?_)
  refine law_pop rfl rfl ?_
  refine mFin.step (q' := (1109, lawL i, .ref 141 :: [], H1, nc, ns)) (step_fetch (i := (1108, .aload_n 2, 1, 0, 0, 0)) rfl rfl) mmon_rf ?_
  refine law_arg (k := 1) (by omega) hL rfl rfl rfl rfl rfl ?_
  refine law_M (as := [.int (sc.getD (i + 1) 0)]) (st := []) R1 (idx := 134) (a := 172) rfl (by decide) rfl (fun _ => rfl) (fun _ => rfl) rfl hm rfl (Nat.le_of_ble_eq_true rfl) hB (fun H2 R2 => ?_)
  refine law_pop rfl rfl ?_
  exact law_go rfl (by decide) (k H2 R2)
set_option maxRecDepth 100000 in
theorem law_case_29 {u w : Int32} (hL : sc.length < 2 ^ 31) (hi : i + 6 ≤ sc.length) (hR : LR hC hM HS) (hc : hC[10]? = some (.inr (4, vs))) (hm : hM[10]? = some (.inr (5, ws))) (hA : mEnds sc d 92 (mentry 92 (.ref 10 :: [.int (sc.getD (i + 1) 0)]) hC) (some (.int u), hC', 0, 0)) (hB : mEnds sc d 173 (mentry 173 (.ref 10 :: [.int (sc.getD (i + 1) 0)]) hM) (some (.int w), hM', 0, 0))
    (k : ∀ HS', LR hC' hM' HS' → mFin sc (d + 1) NC NS (1441, lawL i, [], HS', nc, ns)) : mFin sc (d + 1) NC NS (1121, lawL i, [], HS, nc, ns) := by
  refine mFin.step (q' := (1122, lawL i, .ref 10 :: [], HS, nc, ns)) (step_fetch (i := (1121, .aload_n 1, 1, 0, 0, 0)) rfl rfl) mmon_rf ?_
  refine law_arg (k := 1) (by omega) hL rfl rfl rfl rfl rfl ?_
  refine law_C (as := [.int (sc.getD (i + 1) 0)]) (st := []) hR (idx := 135) (a := 92) rfl (by decide) rfl (fun _ => rfl) (fun _ => rfl) rfl hc rfl (Nat.le_of_ble_eq_true rfl) hA (fun H1 R1 => ?_)
  refine law_pop rfl rfl ?_
  refine mFin.step (q' := (1132, lawL i, .ref 141 :: [], H1, nc, ns)) (step_fetch (i := (1131, .aload_n 2, 1, 0, 0, 0)) rfl rfl) mmon_rf ?_
  refine law_arg (k := 1) (by omega) hL rfl rfl rfl rfl rfl ?_
  refine law_M (as := [.int (sc.getD (i + 1) 0)]) (st := []) R1 (idx := 138) (a := 173) rfl (by decide) rfl (fun _ => rfl) (fun _ => rfl) rfl hm rfl (Nat.le_of_ble_eq_true rfl) hB (fun H2 R2 => ?_)
  refine law_pop rfl rfl ?_
  exact law_go rfl (by decide) (k H2 R2)
set_option maxRecDepth 100000 in
theorem law_case_30 {u : Int32} (hL : sc.length < 2 ^ 31) (hi : i + 6 ≤ sc.length) (hR : LR hC hM HS) (hc : hC[10]? = some (.inr (4, vs))) (hm : hM[10]? = some (.inr (5, ws))) (hA : mEnds sc d 94 (mentry 94 (.ref 10 :: [.int (sc.getD (i + 1) 0), .int (sc.getD (i + 2) 0)]) hC) (some (.int u), hC', 0, 0)) (hB : mEnds sc d 175 (mentry 175 (.ref 10 :: [.int (sc.getD (i + 1) 0), .int (sc.getD (i + 2) 0)]) hM) (some (.int u), hM', 0, 0))
    (k : ∀ HS', LR hC' hM' HS' → mFin sc (d + 1) NC NS (1441, lawL i, [], HS', nc, ns)) : mFin sc (d + 1) NC NS (1144, lawL i, [], HS, nc, ns) := by
  refine mFin.step (q' := (1145, lawL i, .ref 10 :: [], HS, nc, ns)) (step_fetch (i := (1144, .aload_n 1, 1, 0, 0, 0)) rfl rfl) mmon_rf ?_
  refine law_arg (k := 1) (by omega) hL rfl rfl rfl rfl rfl ?_
  refine law_arg (k := 2) (by omega) hL rfl rfl rfl rfl rfl ?_
  refine law_C (as := [.int (sc.getD (i + 1) 0), .int (sc.getD (i + 2) 0)]) (st := []) hR (idx := 139) (a := 94) rfl (by decide) rfl (fun _ => rfl) (fun _ => rfl) rfl hc rfl (Nat.le_of_ble_eq_true rfl) hA (fun H1 R1 => ?_)
  refine mFin.step (q' := (1159, lawL i, .ref 141 :: [.int u], H1, nc, ns)) (step_fetch (i := (1158, .aload_n 2, 1, 0, 0, 0)) rfl rfl) mmon_rf ?_
  refine law_arg (k := 1) (by omega) hL rfl rfl rfl rfl rfl ?_
  refine law_arg (k := 2) (by omega) hL rfl rfl rfl rfl rfl ?_
  refine law_M (as := [.int (sc.getD (i + 1) 0), .int (sc.getD (i + 2) 0)]) (st := [.int u]) R1 (idx := 142) (a := 175) rfl (by decide) rfl (fun _ => rfl) (fun _ => rfl) rfl hm rfl (Nat.le_of_ble_eq_true rfl) hB (fun H2 R2 => ?_)
  exact law_eq rfl rfl (k H2 R2)
set_option maxRecDepth 100000 in
theorem law_case_31 {u w : Int32} (hL : sc.length < 2 ^ 31) (hi : i + 6 ≤ sc.length) (hR : LR hC hM HS) (hc : hC[10]? = some (.inr (4, vs))) (hm : hM[10]? = some (.inr (5, ws))) (hA : mEnds sc d 97 (mentry 97 (.ref 10 :: [.int (sc.getD (i + 1) 0), .int (sc.getD (i + 2) 0), .int (sc.getD (i + 3) 0)]) hC) (some (.int u), hC', 0, 0)) (hB : mEnds sc d 176 (mentry 176 (.ref 10 :: [.int (sc.getD (i + 1) 0), .int (sc.getD (i + 2) 0), .int (sc.getD (i + 3) 0)]) hM) (some (.int w), hM', 0, 0))
    (k : ∀ HS', LR hC' hM' HS' → mFin sc (d + 1) NC NS (1441, lawL i, [], HS', nc, ns)) : mFin sc (d + 1) NC NS (1177, lawL i, [], HS, nc, ns) := by
  refine mFin.step (q' := (1178, lawL i, .ref 10 :: [], HS, nc, ns)) (step_fetch (i := (1177, .aload_n 1, 1, 0, 0, 0)) rfl rfl) mmon_rf ?_
  refine law_arg (k := 1) (by omega) hL rfl rfl rfl rfl rfl ?_
  refine law_arg (k := 2) (by omega) hL rfl rfl rfl rfl rfl ?_
  refine law_arg (k := 3) (by omega) hL rfl rfl rfl rfl rfl ?_
  refine law_C (as := [.int (sc.getD (i + 1) 0), .int (sc.getD (i + 2) 0), .int (sc.getD (i + 3) 0)]) (st := []) hR (idx := 143) (a := 97) rfl (by decide) rfl (fun _ => rfl) (fun _ => rfl) rfl hc rfl (Nat.le_of_ble_eq_true rfl) hA (fun H1 R1 => ?_)
  refine law_pop rfl rfl ?_
  refine mFin.step (q' := (1198, lawL i, .ref 141 :: [], H1, nc, ns)) (step_fetch (i := (1197, .aload_n 2, 1, 0, 0, 0)) rfl rfl) mmon_rf ?_
  refine law_arg (k := 1) (by omega) hL rfl rfl rfl rfl rfl ?_
  refine law_arg (k := 2) (by omega) hL rfl rfl rfl rfl rfl ?_
  refine law_arg (k := 3) (by omega) hL rfl rfl rfl rfl rfl ?_
  refine law_M (as := [.int (sc.getD (i + 1) 0), .int (sc.getD (i + 2) 0), .int (sc.getD (i + 3) 0)]) (st := []) R1 (idx := 146) (a := 176) rfl (by decide) rfl (fun _ => rfl) (fun _ => rfl) rfl hm rfl (Nat.le_of_ble_eq_true rfl) hB (fun H2 R2 => ?_)
  refine law_pop rfl rfl ?_
  exact law_go rfl (by decide) (k H2 R2)
set_option maxRecDepth 100000 in
theorem law_case_32 {u w : Int32} (hL : sc.length < 2 ^ 31) (hi : i + 6 ≤ sc.length) (hR : LR hC hM HS) (hc : hC[10]? = some (.inr (4, vs))) (hm : hM[10]? = some (.inr (5, ws))) (hA : mEnds sc d 98 (mentry 98 (.ref 10 :: [.int (sc.getD (i + 1) 0)]) hC) (some (.int u), hC', 0, 0)) (hB : mEnds sc d 177 (mentry 177 (.ref 10 :: [.int (sc.getD (i + 1) 0)]) hM) (some (.int w), hM', 0, 0))
    (k : ∀ HS', LR hC' hM' HS' → mFin sc (d + 1) NC NS (1441, lawL i, [], HS', nc, ns)) : mFin sc (d + 1) NC NS (1220, lawL i, [], HS, nc, ns) := by
  refine mFin.step (q' := (1221, lawL i, .ref 10 :: [], HS, nc, ns)) (step_fetch (i := (1220, .aload_n 1, 1, 0, 0, 0)) rfl rfl) mmon_rf ?_
  refine law_arg (k := 1) (by omega) hL rfl rfl rfl rfl rfl ?_
  refine law_C (as := [.int (sc.getD (i + 1) 0)]) (st := []) hR (idx := 147) (a := 98) rfl (by decide) rfl (fun _ => rfl) (fun _ => rfl) rfl hc rfl (Nat.le_of_ble_eq_true rfl) hA (fun H1 R1 => ?_)
  refine law_pop rfl rfl ?_
  refine mFin.step (q' := (1231, lawL i, .ref 141 :: [], H1, nc, ns)) (step_fetch (i := (1230, .aload_n 2, 1, 0, 0, 0)) rfl rfl) mmon_rf ?_
  refine law_arg (k := 1) (by omega) hL rfl rfl rfl rfl rfl ?_
  refine law_M (as := [.int (sc.getD (i + 1) 0)]) (st := []) R1 (idx := 150) (a := 177) rfl (by decide) rfl (fun _ => rfl) (fun _ => rfl) rfl hm rfl (Nat.le_of_ble_eq_true rfl) hB (fun H2 R2 => ?_)
  refine law_pop rfl rfl ?_
  exact law_go rfl (by decide) (k H2 R2)
set_option maxRecDepth 100000 in
theorem law_case_33 {u w : Int32} (hL : sc.length < 2 ^ 31) (hi : i + 6 ≤ sc.length) (hR : LR hC hM HS) (hc : hC[10]? = some (.inr (4, vs))) (hm : hM[10]? = some (.inr (5, ws))) (hA : mEnds sc d 99 (mentry 99 (.ref 10 :: [.int (sc.getD (i + 1) 0)]) hC) (some (.int u), hC', 0, 0)) (hB : mEnds sc d 178 (mentry 178 (.ref 10 :: [.int (sc.getD (i + 1) 0)]) hM) (some (.int w), hM', 0, 0))
    (k : ∀ HS', LR hC' hM' HS' → mFin sc (d + 1) NC NS (1441, lawL i, [], HS', nc, ns)) : mFin sc (d + 1) NC NS (1243, lawL i, [], HS, nc, ns) := by
  refine mFin.step (q' := (1244, lawL i, .ref 10 :: [], HS, nc, ns)) (step_fetch (i := (1243, .aload_n 1, 1, 0, 0, 0)) rfl rfl) mmon_rf ?_
  refine law_arg (k := 1) (by omega) hL rfl rfl rfl rfl rfl ?_
  refine law_C (as := [.int (sc.getD (i + 1) 0)]) (st := []) hR (idx := 151) (a := 99) rfl (by decide) rfl (fun _ => rfl) (fun _ => rfl) rfl hc rfl (Nat.le_of_ble_eq_true rfl) hA (fun H1 R1 => ?_)
  refine law_pop rfl rfl ?_
  refine mFin.step (q' := (1254, lawL i, .ref 141 :: [], H1, nc, ns)) (step_fetch (i := (1253, .aload_n 2, 1, 0, 0, 0)) rfl rfl) mmon_rf ?_
  refine law_arg (k := 1) (by omega) hL rfl rfl rfl rfl rfl ?_
  refine law_M (as := [.int (sc.getD (i + 1) 0)]) (st := []) R1 (idx := 154) (a := 178) rfl (by decide) rfl (fun _ => rfl) (fun _ => rfl) rfl hm rfl (Nat.le_of_ble_eq_true rfl) hB (fun H2 R2 => ?_)
  refine law_pop rfl rfl ?_
  exact law_go rfl (by decide) (k H2 R2)
set_option maxRecDepth 100000 in
theorem law_case_34 {u w : Int32} (hL : sc.length < 2 ^ 31) (hi : i + 6 ≤ sc.length) (hR : LR hC hM HS) (hc : hC[10]? = some (.inr (4, vs))) (hm : hM[10]? = some (.inr (5, ws))) (hA : mEnds sc d 100 (mentry 100 (.ref 10 :: [.int (sc.getD (i + 1) 0), .int (sc.getD (i + 2) 0), .int (sc.getD (i + 3) 0)]) hC) (some (.int u), hC', 0, 0)) (hB : mEnds sc d 179 (mentry 179 (.ref 10 :: [.int (sc.getD (i + 1) 0), .int (sc.getD (i + 2) 0), .int (sc.getD (i + 3) 0)]) hM) (some (.int w), hM', 0, 0))
    (k : ∀ HS', LR hC' hM' HS' → mFin sc (d + 1) NC NS (1441, lawL i, [], HS', nc, ns)) : mFin sc (d + 1) NC NS (1266, lawL i, [], HS, nc, ns) := by
  refine mFin.step (q' := (1267, lawL i, .ref 10 :: [], HS, nc, ns)) (step_fetch (i := (1266, .aload_n 1, 1, 0, 0, 0)) rfl rfl) mmon_rf ?_
  refine law_arg (k := 1) (by omega) hL rfl rfl rfl rfl rfl ?_
  refine law_arg (k := 2) (by omega) hL rfl rfl rfl rfl rfl ?_
  refine law_arg (k := 3) (by omega) hL rfl rfl rfl rfl rfl ?_
  refine law_C (as := [.int (sc.getD (i + 1) 0), .int (sc.getD (i + 2) 0), .int (sc.getD (i + 3) 0)]) (st := []) hR (idx := 155) (a := 100) rfl (by decide) rfl (fun _ => rfl) (fun _ => rfl) rfl hc rfl (Nat.le_of_ble_eq_true rfl) hA (fun H1 R1 => ?_)
  refine law_pop rfl rfl ?_
  refine mFin.step (q' := (1287, lawL i, .ref 141 :: [], H1, nc, ns)) (step_fetch (i := (1286, .aload_n 2, 1, 0, 0, 0)) rfl rfl) mmon_rf ?_
  refine law_arg (k := 1) (by omega) hL rfl rfl rfl rfl rfl ?_
  refine law_arg (k := 2) (by omega) hL rfl rfl rfl rfl rfl ?_
  refine law_arg (k := 3) (by omega) hL rfl rfl rfl rfl rfl ?_
  refine law_M (as := [.int (sc.getD (i + 1) 0), .int (sc.getD (i + 2) 0), .int (sc.getD (i + 3) 0)]) (st := []) R1 (idx := 158) (a := 179) rfl (by decide) rfl (fun _ => rfl) (fun _ => rfl) rfl hm rfl (Nat.le_of_ble_eq_true rfl) hB (fun H2 R2 => ?_)
  refine law_pop rfl rfl ?_
  exact law_go rfl (by decide) (k H2 R2)
set_option maxRecDepth 100000 in
theorem law_case_35 {u w : Int32} (hL : sc.length < 2 ^ 31) (hi : i + 6 ≤ sc.length) (hR : LR hC hM HS) (hc : hC[10]? = some (.inr (4, vs))) (hm : hM[10]? = some (.inr (5, ws))) (hA : mEnds sc d 101 (mentry 101 (.ref 10 :: [.int (sc.getD (i + 1) 0), .int (sc.getD (i + 2) 0), .int (sc.getD (i + 3) 0)]) hC) (some (.int u), hC', 0, 0)) (hB : mEnds sc d 180 (mentry 180 (.ref 10 :: [.int (sc.getD (i + 1) 0), .int (sc.getD (i + 2) 0), .int (sc.getD (i + 3) 0)]) hM) (some (.int w), hM', 0, 0))
    (k : ∀ HS', LR hC' hM' HS' → mFin sc (d + 1) NC NS (1441, lawL i, [], HS', nc, ns)) : mFin sc (d + 1) NC NS (1309, lawL i, [], HS, nc, ns) := by
  refine mFin.step (q' := (1310, lawL i, .ref 10 :: [], HS, nc, ns)) (step_fetch (i := (1309, .aload_n 1, 1, 0, 0, 0)) rfl rfl) mmon_rf ?_
  refine law_arg (k := 1) (by omega) hL rfl rfl rfl rfl rfl ?_
  refine law_arg (k := 2) (by omega) hL rfl rfl rfl rfl rfl ?_
  refine law_arg (k := 3) (by omega) hL rfl rfl rfl rfl rfl ?_
  refine law_C (as := [.int (sc.getD (i + 1) 0), .int (sc.getD (i + 2) 0), .int (sc.getD (i + 3) 0)]) (st := []) hR (idx := 159) (a := 101) rfl (by decide) rfl (fun _ => rfl) (fun _ => rfl) rfl hc rfl (Nat.le_of_ble_eq_true rfl) hA (fun H1 R1 => ?_)
  refine law_pop rfl rfl ?_
  refine mFin.step (q' := (1330, lawL i, .ref 141 :: [], H1, nc, ns)) (step_fetch (i := (1329, .aload_n 2, 1, 0, 0, 0)) rfl rfl) mmon_rf ?_
  refine law_arg (k := 1) (by omega) hL rfl rfl rfl rfl rfl ?_
  refine law_arg (k := 2) (by omega) hL rfl rfl rfl rfl rfl ?_
  refine law_arg (k := 3) (by omega) hL rfl rfl rfl rfl rfl ?_
  refine law_M (as := [.int (sc.getD (i + 1) 0), .int (sc.getD (i + 2) 0), .int (sc.getD (i + 3) 0)]) (st := []) R1 (idx := 162) (a := 180) rfl (by decide) rfl (fun _ => rfl) (fun _ => rfl) rfl hm rfl (Nat.le_of_ble_eq_true rfl) hB (fun H2 R2 => ?_)
  refine law_pop rfl rfl ?_
  exact law_go rfl (by decide) (k H2 R2)
set_option maxRecDepth 100000 in
theorem law_case_36 {u w : Int32} (hL : sc.length < 2 ^ 31) (hi : i + 6 ≤ sc.length) (hR : LR hC hM HS) (hc : hC[10]? = some (.inr (4, vs))) (hm : hM[10]? = some (.inr (5, ws))) (hA : mEnds sc d 102 (mentry 102 (.ref 10 :: [.int (sc.getD (i + 1) 0), .int (sc.getD (i + 2) 0), .int (sc.getD (i + 3) 0), .int (sc.getD (i + 4) 0)]) hC) (some (.int u), hC', 0, 0)) (hB : mEnds sc d 181 (mentry 181 (.ref 10 :: [.int (sc.getD (i + 1) 0), .int (sc.getD (i + 2) 0), .int (sc.getD (i + 3) 0), .int (sc.getD (i + 4) 0)]) hM) (some (.int w), hM', 0, 0))
    (k : ∀ HS', LR hC' hM' HS' → mFin sc (d + 1) NC NS (1441, lawL i, [], HS', nc, ns)) : mFin sc (d + 1) NC NS (1352, lawL i, [], HS, nc, ns) := by
  refine mFin.step (q' := (1353, lawL i, .ref 10 :: [], HS, nc, ns)) (step_fetch (i := (1352, .aload_n 1, 1, 0, 0, 0)) rfl rfl) mmon_rf ?_
  refine law_arg (k := 1) (by omega) hL rfl rfl rfl rfl rfl ?_
  refine law_arg (k := 2) (by omega) hL rfl rfl rfl rfl rfl ?_
  refine law_arg (k := 3) (by omega) hL rfl rfl rfl rfl rfl ?_
  refine law_arg (k := 4) (by omega) hL rfl rfl rfl rfl rfl ?_
  refine law_C (as := [.int (sc.getD (i + 1) 0), .int (sc.getD (i + 2) 0), .int (sc.getD (i + 3) 0), .int (sc.getD (i + 4) 0)]) (st := []) hR (idx := 163) (a := 102) rfl (by decide) rfl (fun _ => rfl) (fun _ => rfl) rfl hc rfl (Nat.le_of_ble_eq_true rfl) hA (fun H1 R1 => ?_)
  refine law_pop rfl rfl ?_
  refine mFin.step (q' := (1378, lawL i, .ref 141 :: [], H1, nc, ns)) (step_fetch (i := (1377, .aload_n 2, 1, 0, 0, 0)) rfl rfl) mmon_rf ?_
  refine law_arg (k := 1) (by omega) hL rfl rfl rfl rfl rfl ?_
  refine law_arg (k := 2) (by omega) hL rfl rfl rfl rfl rfl ?_
  refine law_arg (k := 3) (by omega) hL rfl rfl rfl rfl rfl ?_
  refine law_arg (k := 4) (by omega) hL rfl rfl rfl rfl rfl ?_
  refine law_M (as := [.int (sc.getD (i + 1) 0), .int (sc.getD (i + 2) 0), .int (sc.getD (i + 3) 0), .int (sc.getD (i + 4) 0)]) (st := []) R1 (idx := 167) (a := 181) rfl (by decide) rfl (fun _ => rfl) (fun _ => rfl) rfl hm rfl (Nat.le_of_ble_eq_true rfl) hB (fun H2 R2 => ?_)
  refine law_pop rfl rfl ?_
  exact law_go rfl (by decide) (k H2 R2)
set_option maxRecDepth 100000 in
theorem law_case_37 {u w : Int32} (hL : sc.length < 2 ^ 31) (hi : i + 6 ≤ sc.length) (hR : LR hC hM HS) (hc : hC[10]? = some (.inr (4, vs))) (hm : hM[10]? = some (.inr (5, ws))) (hA : mEnds sc d 103 (mentry 103 (.ref 10 :: []) hC) (some (.int u), hC', 0, 0)) (hB : mEnds sc d 182 (mentry 182 (.ref 10 :: []) hM) (some (.int w), hM', 0, 0))
    (k : ∀ HS', LR hC' hM' HS' → mFin sc (d + 1) NC NS (1441, lawL i, [], HS', nc, ns)) : mFin sc (d + 1) NC NS (1405, lawL i, [], HS, nc, ns) := by
  refine mFin.step (q' := (1406, lawL i, .ref 10 :: [], HS, nc, ns)) (step_fetch (i := (1405, .aload_n 1, 1, 0, 0, 0)) rfl rfl) mmon_rf ?_
  refine law_C (as := []) (st := []) hR (idx := 168) (a := 103) rfl (by decide) rfl (fun _ => rfl) (fun _ => rfl) rfl hc rfl (Nat.le_of_ble_eq_true rfl) hA (fun H1 R1 => ?_)
  refine law_pop rfl rfl ?_
  refine mFin.step (q' := (1411, lawL i, .ref 141 :: [], H1, nc, ns)) (step_fetch (i := (1410, .aload_n 2, 1, 0, 0, 0)) rfl rfl) mmon_rf ?_
  refine law_M (as := []) (st := []) R1 (idx := 171) (a := 182) rfl (by decide) rfl (fun _ => rfl) (fun _ => rfl) rfl hm rfl (Nat.le_of_ble_eq_true rfl) hB (fun H2 R2 => ?_)
  refine law_pop rfl rfl ?_
  exact law_go rfl (by decide) (k H2 R2)
set_option maxRecDepth 100000 in
theorem law_case_38 {u w : Int32} (hL : sc.length < 2 ^ 31) (hi : i + 6 ≤ sc.length) (hR : LR hC hM HS) (hc : hC[10]? = some (.inr (4, vs))) (hm : hM[10]? = some (.inr (5, ws))) (hA : mEnds sc d 104 (mentry 104 (.ref 10 :: [.int (sc.getD (i + 1) 0)]) hC) (some (.int u), hC', 0, 0)) (hB : mEnds sc d 183 (mentry 183 (.ref 10 :: [.int (sc.getD (i + 1) 0)]) hM) (some (.int w), hM', 0, 0))
    (k : ∀ HS', LR hC' hM' HS' → mFin sc (d + 1) NC NS (1441, lawL i, [], HS', nc, ns)) : mFin sc (d + 1) NC NS (1418, lawL i, [], HS, nc, ns) := by
  refine mFin.step (q' := (1419, lawL i, .ref 10 :: [], HS, nc, ns)) (step_fetch (i := (1418, .aload_n 1, 1, 0, 0, 0)) rfl rfl) mmon_rf ?_
  refine law_arg (k := 1) (by omega) hL rfl rfl rfl rfl rfl ?_
  refine law_C (as := [.int (sc.getD (i + 1) 0)]) (st := []) hR (idx := 172) (a := 104) rfl (by decide) rfl (fun _ => rfl) (fun _ => rfl) rfl hc rfl (Nat.le_of_ble_eq_true rfl) hA (fun H1 R1 => ?_)
  refine law_pop rfl rfl ?_
  refine mFin.step (q' := (1429, lawL i, .ref 141 :: [], H1, nc, ns)) (step_fetch (i := (1428, .aload_n 2, 1, 0, 0, 0)) rfl rfl) mmon_rf ?_
  refine law_arg (k := 1) (by omega) hL rfl rfl rfl rfl rfl ?_
  refine law_M (as := [.int (sc.getD (i + 1) 0)]) (st := []) R1 (idx := 175) (a := 183) rfl (by decide) rfl (fun _ => rfl) (fun _ => rfl) rfl hm rfl (Nat.le_of_ble_eq_true rfl) hB (fun H2 R2 => ?_)
  refine law_pop rfl rfl ?_
  exact law_go rfl (by decide) (k H2 R2)
end LAW
