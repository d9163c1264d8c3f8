/-! mean: powers of ten, fractions -/
def tp (N : Nat) : Int64 := Int64.ofNat (10 ^ N)
theorem tp_s (k : Nat) : tp k * 10 = tp (k + 1) := by
  unfold tp
  rw [Nat.pow_succ, Int64.ofNat_mul]
  rfl
def tpf (N : Nat) : Bool := decide (¬ tp N = 0) && (decide (lg_cmp (tp N) 0 = 1) && (decide ((0 : Int64) - 0 / tp N * tp N = 0) && (decide ((0 : Int64) / tp N = 0) && (decide (tp N / tp N = 1) && decide ((if (1 : Int64) < tp N then tp N else 1) = tp N)))))
theorem tpf_all : (List.range 9).all tpf = true := by decide +kernel
theorem tp_f {N : Nat} (h : N ≤ 8) : ¬ tp N = 0 ∧ lg_cmp (tp N) 0 = 1 ∧ (0 : Int64) - 0 / tp N * tp N = 0 ∧ (0 : Int64) / tp N = 0 ∧ tp N / tp N = 1 ∧ (if (1 : Int64) < tp N then tp N else 1) = tp N := by
  have e := List.all_eq_true.mp tpf_all N (List.mem_range.mpr (by omega))
  obtain ⟨h1, e⟩ := mand e
  obtain ⟨h2, e⟩ := mand e
  obtain ⟨h3, e⟩ := mand e
  obtain ⟨h4, e⟩ := mand e
  obtain ⟨h5, h6⟩ := mand e
  exact ⟨of_decide_eq_true h1, of_decide_eq_true h2, of_decide_eq_true h3, of_decide_eq_true h4, of_decide_eq_true h5, of_decide_eq_true h6⟩
theorem lrem_step {sc : List Int32} {y pc : Nat} {loc : mL} {a b : Int64} {st : List Value} {hs : mH} {nc ns : Nat} (hf : mfetch y pc = some (pc, .lrem, 1, 0, 0, 0)) (hb : ¬ b = 0) :
    mstep sc y (pc, loc, .long b :: .long a :: st, hs, nc, ns) = some (.inl (pc + 1, loc, .long (a - a / b * b) :: st, hs, nc, ns)) := by
  refine step_fetch hf ?_
  show mL2 (fun x y => if y = 0 then none else some (.long (x - x / y * y))) (fun st => mgo (pc + 1) loc st hs nc ns) (.long b :: .long a :: st) = _
  unfold mL2
  simp only [if_neg hb]
  rfl
theorem ldiv_step {sc : List Int32} {y pc : Nat} {loc : mL} {a b : Int64} {st : List Value} {hs : mH} {nc ns : Nat} (hf : mfetch y pc = some (pc, .ldiv, 1, 0, 0, 0)) (hb : ¬ b = 0) :
    mstep sc y (pc, loc, .long b :: .long a :: st, hs, nc, ns) = some (.inl (pc + 1, loc, .long (a / b) :: st, hs, nc, ns)) := by
  refine step_fetch hf ?_
  show mL2 (fun x y => if y = 0 then none else some (.long (x / y))) (fun st => mgo (pc + 1) loc st hs nc ns) (.long b :: .long a :: st) = _
  unfold mL2
  simp only [if_neg hb]
  rfl
set_option maxRecDepth 100000 in
theorem te_loop (hs : mH) {N : Nat} (hN : N ≤ 8) : ∀ (m k : Nat), k + m = N → mEnds [] 18 86 (4, [some (.int (nI N)), some (.long (tp k)), none, some (.int (nI k))], [], hs, 0, 0) (some (.long (tp N)), hs, 0, 0)
  | 0, k, h => by
    have e : k = N := by omega
    subst e
    refine mEnds.steps 2 (q' := (6, [some (.int (nI k)), some (.long (tp k)), none, some (.int (nI k))], [.int (nI k), .int (nI k)], hs, 0, 0)) rfl ?_
    refine mEnds.brT (q' := (21, [some (.int (nI k)), some (.long (tp k)), none, some (.int (nI k))], [], hs, 0, 0)) rfl (decide_eq_true (nI_le (Nat.le_refl k) (by omega))) rfl ?_
    refine mEnds.steps 1 (q' := (22, [some (.int (nI k)), some (.long (tp k)), none, some (.int (nI k))], [.long (tp k)], hs, 0, 0)) rfl ?_
    exact mEnds.ret rfl
  | m + 1, k, h => by
    refine mEnds.steps 2 (q' := (6, [some (.int (nI N)), some (.long (tp k)), none, some (.int (nI k))], [.int (nI N), .int (nI k)], hs, 0, 0)) rfl ?_
    refine mEnds.brF (q' := (9, [some (.int (nI N)), some (.long (tp k)), none, some (.int (nI k))], [], hs, 0, 0)) rfl (decide_eq_false (nI_ge (by omega) (by omega))) rfl ?_
    refine mEnds.steps 4 (q' := (15, [some (.int (nI N)), some (.long (tp k * 10)), none, some (.int (nI k))], [], hs, 0, 0)) rfl ?_
    rw [tp_s]
    refine mEnds.steps 2 (q' := (4, [some (.int (nI N)), some (.long (tp (k + 1))), none, some (.int (nI k + 1))], [], hs, 0, 0)) rfl ?_
    rw [nI_1]
    exact te_loop hs hN m (k + 1) (by omega)
set_option maxRecDepth 100000 in
theorem te_run (hs : mH) {N : Nat} (hN : N ≤ 8) : mEnds [] 18 86 (mentry 86 [.int (nI N)] hs) (some (.long (tp N)), hs, 0, 0) := by
  refine mEnds.steps 4 (q' := (4, [some (.int (nI N)), some (.long (tp 0)), none, some (.int (nI 0))], [], hs, 0, 0)) rfl ?_
  exact te_loop hs hN N 0 (by omega)
set_option maxRecDepth 100000 in
theorem cd_run (hs : mH) {N : Nat} (hN : N ≤ 8) : mEnds [] 17 88 (mentry 88 [.long 0, .long (tp N)] hs) (some (.long (tp N)), hs, 0, 0) := by
  obtain ⟨h1, h2, h3, h4, h5, h6⟩ := tp_f hN
  refine mEnds.steps 8 (q' := (14, [some (.long 0), none, some (.long (tp N)), none, some (.int 0), none, none], [.int (lg_cmp (tp N) 0)], hs, 0, 0)) rfl ?_
  rw [h2]
  refine mEnds.steps 3 (q' := (19, [some (.long 0), none, some (.long (tp N)), none, some (.int 0), none, none], [.long (tp N), .long 0], hs, 0, 0)) rfl ?_
  refine mEnds.step (q' := (20, [some (.long 0), none, some (.long (tp N)), none, some (.int 0), none, none], [.long (0 - 0 / tp N * tp N)], hs, 0, 0)) (lrem_step rfl h1) rfl ?_
  rw [h3]
  refine mEnds.steps 7 (q' := (3, [some (.long (tp N)), none, some (.long 0), none, some (.int 1), some (.long 0), none], [], hs, 0, 0)) rfl ?_
  refine mEnds.steps 6 (q' := (14, [some (.long (tp N)), none, some (.long 0), none, some (.int 1), some (.long 0), none], [.int 0], hs, 0, 0)) rfl ?_
  refine mEnds.steps 3 (q' := (35, [some (.long (tp N)), none, some (.long 0), none, some (.int 1), some (.long 0), none], [.long 1, .long (tp N)], hs, 0, 0)) rfl ?_
  refine mEnds.steps 1 (q' := (38, [some (.long (tp N)), none, some (.long 0), none, some (.int 1), some (.long 0), none], [.long (if (1 : Int64) < tp N then tp N else 1)], hs, 0, 0)) rfl ?_
  rw [h6]
  exact mEnds.ret rfl
set_option maxRecDepth 100000 in
theorem of_run0 (hs : mH) {N : Nat} (hN : N ≤ 8) : mEnds [] 18 87 (mentry 87 [.long 0, .long (tp N), .int 0] hs) (some (.long 0), hs, 0, 0) := by
  obtain ⟨h1, h2, h3, h4, h5, h6⟩ := tp_f hN
  refine mEnds.steps 2 (q' := (2, [some (.long 0), none, some (.long (tp N)), none, some (.int 0), none, none], [.long (tp N), .long 0], hs, 0, 0)) rfl ?_
  refine mEnds.call (d := 17) (y' := 88) (as := [.long 0, .long (tp N)]) (q' := (5, [some (.long 0), none, some (.long (tp N)), none, some (.int 0), none, none], [], hs, 0, 0)) (v := some (.long (tp N))) (hs' := hs) (c' := 0) (s' := 0) rfl rfl (cd_run hs hN) ?_
  show mEnds [] 18 87 (5, [some (.long 0), none, some (.long (tp N)), none, some (.int 0), none, none], [.long (tp N)], hs, 0, 0) _
  refine mEnds.steps 5 (q' := (15, [some (.long 0), none, some (.long (tp N)), none, some (.int 0), some (.long (tp N)), none], [.long (tp N), .long 0], hs, 0, 0)) rfl ?_
  refine mEnds.step (q' := (16, [some (.long 0), none, some (.long (tp N)), none, some (.int 0), some (.long (tp N)), none], [.long (0 / tp N)], hs, 0, 0)) (ldiv_step rfl h1) rfl ?_
  rw [h4]
  refine mEnds.steps 1 (q' := (23, [some (.long 0), none, some (.long (tp N)), none, some (.int 0), some (.long (tp N)), none], [.long 0], hs, 0, 0)) rfl ?_
  exact mEnds.ret rfl
set_option maxRecDepth 100000 in
theorem lo_run0 (hs : mH) {N : Nat} (hN : N ≤ 8) : mEnds [] 18 164 (mentry 164 [.long 0, .long (tp N), .int 0] hs) (some (.long 0), hs, 0, 0) := by
  obtain ⟨h1, h2, h3, h4, h5, h6⟩ := tp_f hN
  refine mEnds.steps 7 (q' := (10, [some (.long 0), none, some (.long (tp N)), none, some (.int 0), some (.long 0), none, some (.long (tp N)), none, none, none], [.int (lg_cmp (tp N) 0)], hs, 0, 0)) rfl ?_
  rw [h2]
  refine mEnds.steps 3 (q' := (17, [some (.long 0), none, some (.long (tp N)), none, some (.int 0), some (.long 0), none, some (.long (tp N)), none, none, none], [.long (tp N), .long 0], hs, 0, 0)) rfl ?_
  refine mEnds.step (q' := (18, [some (.long 0), none, some (.long (tp N)), none, some (.int 0), some (.long 0), none, some (.long (tp N)), none, none, none], [.long (0 - 0 / tp N * tp N)], hs, 0, 0)) (lrem_step rfl h1) rfl ?_
  rw [h3]
  refine mEnds.steps 6 (q' := (6, [some (.long 0), none, some (.long (tp N)), none, some (.int 0), some (.long (tp N)), none, some (.long 0), none, some (.long 0), none], [], hs, 0, 0)) rfl ?_
  refine mEnds.steps 3 (q' := (10, [some (.long 0), none, some (.long (tp N)), none, some (.int 0), some (.long (tp N)), none, some (.long 0), none, some (.long 0), none], [.int 0], hs, 0, 0)) rfl ?_
  refine mEnds.steps 6 (q' := (43, [some (.long 0), none, some (.long (tp N)), none, some (.int 0), some (.long (tp N)), none, some (.long 0), none, some (.long 0), none], [.long (tp N), .long 0], hs, 0, 0)) rfl ?_
  refine mEnds.step (q' := (44, [some (.long 0), none, some (.long (tp N)), none, some (.int 0), some (.long (tp N)), none, some (.long 0), none, some (.long 0), none], [.long (0 / tp N)], hs, 0, 0)) (ldiv_step rfl h1) rfl ?_
  rw [h4]
  exact mEnds.ret rfl
set_option maxRecDepth 100000 in
theorem of_run1 (hs : mH) {N : Nat} (hN : N ≤ 8) : mEnds [] 18 87 (mentry 87 [.long 0, .long (tp N), .int 1] hs) (some (.long 1), hs, 0, 0) := by
  obtain ⟨h1, h2, h3, h4, h5, h6⟩ := tp_f hN
  refine mEnds.steps 2 (q' := (2, [some (.long 0), none, some (.long (tp N)), none, some (.int 1), none, none], [.long (tp N), .long 0], hs, 0, 0)) rfl ?_
  refine mEnds.call (d := 17) (y' := 88) (as := [.long 0, .long (tp N)]) (q' := (5, [some (.long 0), none, some (.long (tp N)), none, some (.int 1), none, none], [], hs, 0, 0)) (v := some (.long (tp N))) (hs' := hs) (c' := 0) (s' := 0) rfl rfl (cd_run hs hN) ?_
  show mEnds [] 18 87 (5, [some (.long 0), none, some (.long (tp N)), none, some (.int 1), none, none], [.long (tp N)], hs, 0, 0) _
  refine mEnds.steps 5 (q' := (22, [some (.long 0), none, some (.long (tp N)), none, some (.int 1), some (.long (tp N)), none], [.long (tp N), .long (tp N)], hs, 0, 0)) rfl ?_
  refine mEnds.step (q' := (23, [some (.long 0), none, some (.long (tp N)), none, some (.int 1), some (.long (tp N)), none], [.long ((tp N) / tp N)], hs, 0, 0)) (ldiv_step rfl h1) rfl ?_
  rw [h5]
  exact mEnds.ret rfl
set_option maxRecDepth 100000 in
theorem lo_run1 (hs : mH) {N : Nat} (hN : N ≤ 8) : mEnds [] 18 164 (mentry 164 [.long 0, .long (tp N), .int 1] hs) (some (.long 1), hs, 0, 0) := by
  obtain ⟨h1, h2, h3, h4, h5, h6⟩ := tp_f hN
  refine mEnds.steps 7 (q' := (10, [some (.long 0), none, some (.long (tp N)), none, some (.int 1), some (.long 0), none, some (.long (tp N)), none, none, none], [.int (lg_cmp (tp N) 0)], hs, 0, 0)) rfl ?_
  rw [h2]
  refine mEnds.steps 3 (q' := (17, [some (.long 0), none, some (.long (tp N)), none, some (.int 1), some (.long 0), none, some (.long (tp N)), none, none, none], [.long (tp N), .long 0], hs, 0, 0)) rfl ?_
  refine mEnds.step (q' := (18, [some (.long 0), none, some (.long (tp N)), none, some (.int 1), some (.long 0), none, some (.long (tp N)), none, none, none], [.long (0 - 0 / tp N * tp N)], hs, 0, 0)) (lrem_step rfl h1) rfl ?_
  rw [h3]
  refine mEnds.steps 6 (q' := (6, [some (.long 0), none, some (.long (tp N)), none, some (.int 1), some (.long (tp N)), none, some (.long 0), none, some (.long 0), none], [], hs, 0, 0)) rfl ?_
  refine mEnds.steps 3 (q' := (10, [some (.long 0), none, some (.long (tp N)), none, some (.int 1), some (.long (tp N)), none, some (.long 0), none, some (.long 0), none], [.int 0], hs, 0, 0)) rfl ?_
  refine mEnds.steps 5 (q' := (43, [some (.long 0), none, some (.long (tp N)), none, some (.int 1), some (.long (tp N)), none, some (.long 0), none, some (.long 0), none], [.long (tp N), .long (tp N)], hs, 0, 0)) rfl ?_
  refine mEnds.step (q' := (44, [some (.long 0), none, some (.long (tp N)), none, some (.int 1), some (.long (tp N)), none, some (.long 0), none, some (.long 0), none], [.long ((tp N) / tp N)], hs, 0, 0)) (ldiv_step rfl h1) rfl ?_
  rw [h5]
  exact mEnds.ret rfl
