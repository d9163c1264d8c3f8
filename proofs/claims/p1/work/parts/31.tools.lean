theorem mEnds.brT {sc : List Int32} {d y : Nat} {q q' : mS} {c : Bool} {X : Option mO} {x : Option Value × mH × Nat × Nat} (h : mstep sc y q = bif c then some (.inl q') else X) (hc : c = true) (hm : mmon q q' = true) (k : mEnds sc d y q' x) : mEnds sc d y q x := by
  rw [hc, cond_true] at h; exact mEnds.step h hm k
theorem mEnds.brF {sc : List Int32} {d y : Nat} {q q' : mS} {c : Bool} {X : Option mO} {x : Option Value × mH × Nat × Nat} (h : mstep sc y q = bif c then X else some (.inl q')) (hc : c = false) (hm : mmon q q' = true) (k : mEnds sc d y q' x) : mEnds sc d y q x := by
  rw [hc, cond_false] at h; exact mEnds.step h hm k
theorem mtk_ge {x c : Int32} {b : Bool} (h : decide (x < c) = b) : mtk .ge x c = !b := by
  subst h
  show decide (c ≤ x) = !decide (x < c)
  by_cases q : x < c
  · rw [decide_eq_true q, decide_eq_false (Int32.not_le.mpr q)]; rfl
  · rw [decide_eq_false q, decide_eq_true (Int32.not_lt.mp q)]; rfl
theorem mtk_le {x c : Int32} {b : Bool} (h : decide (c < x) = b) : mtk .le x c = !b := mtk_ge h
theorem mtk_ne {x c : Int32} {b : Bool} (h : decide (x = c) = b) : mtk .ne x c = !b := by
  subst h
  show decide (¬ x = c) = !decide (x = c)
  by_cases q : x = c
  · rw [decide_eq_true q, decide_eq_false (fun w => w q)]; rfl
  · rw [decide_eq_false q, decide_eq_true q]; rfl
theorem l64_lt (x c : Int32) : x.toInt64 < c.toInt64 ↔ x < c := by
  rw [Int64.lt_iff_toInt_lt, Int32.lt_iff_toInt_lt, Int32.toInt_toInt64, Int32.toInt_toInt64]
theorem l64_eq (x c : Int32) : x.toInt64 = c.toInt64 ↔ x = c := by
  constructor
  · intro h
    have := congrArg Int64.toInt h
    rw [Int32.toInt_toInt64, Int32.toInt_toInt64] at this
    exact Int32.toInt_inj.mp this
  · intro h; rw [h]
theorem lgc_val (x c : Int32) : lg_cmp x.toInt64 c.toInt64 = if c < x then 1 else if x = c then 0 else -1 := by
  unfold lg_cmp
  have e1 : (x.toInt64 > c.toInt64) = (c < x) := propext (l64_lt c x)
  have e2 : (x.toInt64 = c.toInt64) = (x = c) := propext (l64_eq x c)
  simp only [e1, e2]
theorem i32_tri {x c : Int32} (h1 : ¬ c < x) (h2 : ¬ x = c) : x < c := by
  rw [Int32.lt_iff_toInt_lt] at h1 ⊢
  have h3 : ¬ x.toInt = c.toInt := fun w => h2 (Int32.toInt_inj.mp w)
  omega
theorem i32_irr {x c : Int32} (h : x < c) : ¬ c < x ∧ ¬ x = c := by
  refine ⟨fun w => ?_, fun w => ?_⟩
  · rw [Int32.lt_iff_toInt_lt] at h w; omega
  · rw [w, Int32.lt_iff_toInt_lt] at h; omega
theorem lgc_lt {x c : Int32} {n : Int64} {b : Bool} (hn : n = c.toInt64) (h : decide (x < c) = b) : mtk .lt (lg_cmp x.toInt64 n) 0 = b := by
  subst hn; subst h
  show decide (lg_cmp x.toInt64 c.toInt64 < 0) = decide (x < c)
  rw [lgc_val]
  by_cases h1 : c < x
  · rw [if_pos h1, decide_eq_false (i32_irr h1).1]; decide
  · rw [if_neg h1]
    by_cases h2 : x = c
    · subst h2
      have e : decide (x < x) = false := decide_eq_false (fun w => (i32_irr w).2 rfl)
      rw [if_pos rfl, e]; decide
    · rw [if_neg h2, decide_eq_true (i32_tri h1 h2)]; decide
theorem lgc_gt {x c : Int32} {n : Int64} {b : Bool} (hn : n = c.toInt64) (h : decide (c < x) = b) : mtk .gt (lg_cmp x.toInt64 n) 0 = b := by
  subst hn; subst h
  show decide (0 < lg_cmp x.toInt64 c.toInt64) = decide (c < x)
  rw [lgc_val]
  by_cases h1 : c < x
  · rw [if_pos h1, decide_eq_true h1]; decide
  · rw [if_neg h1, decide_eq_false h1]
    by_cases h2 : x = c
    · rw [if_pos h2]; decide
    · rw [if_neg h2]; decide
/-- an answer that a program decides -/
def ansI (x : Option (Option Value × mH × Nat × Nat)) (v : Value) : Bool := match x with
  | some (some w, _, c, s) => decide (w = v) && (Nat.beq c 0 && Nat.beq s 0)
  | _ => false
theorem ansI_ok {n d y : Nat} {q : mS} {v : Value} (h : ansI (mrun [] n d y q) v = true) : ∃ hs', mEnds [] d y q (some v, hs', 0, 0) := by
  unfold ansI at h
  split at h
  · next w hs c s e =>
    obtain ⟨h1, h2⟩ := mand h
    obtain ⟨h2, h3⟩ := mand h2
    rw [of_decide_eq_true h1, beqN h2, beqN h3] at e
    exact ⟨hs, n, e⟩
  · cases h
theorem dT {x y : Int32} : decide (x < y) = true ↔ x.toInt < y.toInt := by rw [decide_eq_true_eq, Int32.lt_iff_toInt_lt]
theorem dF {x y : Int32} : decide (x < y) = false ↔ y.toInt ≤ x.toInt := by rw [decide_eq_false_iff_not, Int32.lt_iff_toInt_lt]; omega
theorem lt_T {x a c : Int32} (h : decide (x < a) = true) (k : a.toInt ≤ c.toInt) : decide (x < c) = true := by rw [dT] at h ⊢; omega
theorem lt_F {x a c : Int32} (h : decide (x < a) = false) (k : c.toInt ≤ a.toInt) : decide (x < c) = false := by rw [dF] at h ⊢; omega
theorem gt_T {x a c : Int32} (h : decide (a < x) = true) (k : c.toInt ≤ a.toInt) : decide (c < x) = true := by rw [dT] at h ⊢; omega
theorem gt_F {x a c : Int32} (h : decide (a < x) = false) (k : a.toInt ≤ c.toInt) : decide (c < x) = false := by rw [dF] at h ⊢; omega
theorem ltF_gtT {x a c : Int32} (h : decide (x < a) = false) (k : c.toInt < a.toInt) : decide (c < x) = true := by rw [dF] at h; rw [dT]; omega
theorem gtF_ltT {x a c : Int32} (h : decide (a < x) = false) (k : a.toInt < c.toInt) : decide (x < c) = true := by rw [dF] at h; rw [dT]; omega
theorem ltT_gtF {x a c : Int32} (h : decide (x < a) = true) (k : a.toInt ≤ c.toInt + 1) : decide (c < x) = false := by rw [dT] at h; rw [dF]; omega
theorem gtT_ltF {x a c : Int32} (h : decide (a < x) = true) (k : c.toInt ≤ a.toInt + 1) : decide (x < c) = false := by rw [dT] at h; rw [dF]; omega
theorem mEnds.brP {sc : List Int32} {d y : Nat} {q q' : mS} {P : Prop} {iP : Decidable P} {X : Option mO} {x : Option Value × mH × Nat × Nat} (h : mstep sc y q = if P then some (.inl q') else X) (hc : P) (hm : mmon q q' = true) (k : mEnds sc d y q' x) : mEnds sc d y q x := by
  rw [if_pos hc] at h; exact mEnds.step h hm k
theorem sw_lo {x c : Int32} {l : Int} (h : decide (x < c) = true) (e : c.toInt = l) : x.toInt < l := by rw [dT] at h; omega
theorem sw_hi {x c : Int32} {l : Int} (h : decide (c < x) = true) (e : c.toInt = l) : l < x.toInt := by rw [dT] at h; omega
theorem i32_rng {x a b : Int32} {n : Nat} (h1 : decide (x < a) = false) (h2 : decide (b < x) = false) (e : (b.toInt - a.toInt + 1) = n) : ∃ k : Nat, k < n ∧ x.toInt = a.toInt + k := by
  rw [dF] at h1 h2
  exact ⟨(x.toInt - a.toInt).toNat, by omega, by omega⟩
theorem i32_at {x a c : Int32} {k : Nat} (h : x.toInt = a.toInt + k) (e : a.toInt + k = c.toInt) : x = c := Int32.toInt_inj.mp (h.trans e)
