/-! the reference's fuse, and what was felt -/
theorem rem64 (x y : Int64) (hy : ¬ y = 0) : (x - x / y * y).toInt = x.toInt.tmod y.toInt := by
  have h0 : y.toInt ≠ 0 := fun q => hy (Int64.toInt_inj.mp q)
  have h1 := Int64.minValue_le_toInt y
  have h2 := Int64.toInt_le y
  have e1 : Int64.minValue.toInt = -9223372036854775808 := by decide
  have e2 : Int64.maxValue.toInt = 9223372036854775807 := by decide
  rw [e1] at h1
  rw [e2] at h2
  have hb : (x.toInt.tmod y.toInt).natAbs < y.toInt.natAbs := by
    rw [Int.natAbs_tmod]
    exact Nat.mod_lt _ (by omega)
  rw [Int64.toInt_sub, Int64.toInt_mul, Int64.toInt_div]
  rw [Int.sub_bmod_bmod, ← Int.sub_bmod_bmod, Int.bmod_mul_bmod, Int.sub_bmod_bmod]
  have e : x.toInt - x.toInt.tdiv y.toInt * y.toInt = x.toInt.tmod y.toInt := by
    have := Int.tdiv_mul_add_tmod x.toInt y.toInt
    omega
  rw [e]
  exact Int.bmod_eq_of_le (by omega) (by omega)
theorem V_low6 {x0 x2 : Int64} {x4 : Int32} {t : sg} : ∀ (n fu : Nat) (x5 x7 : Int64), x7.toInt.natAbs < 2 ^ n → (¬ x5 = 0 ∨ ¬ x7 = 0) → 2 * n + 1 ≤ fu → wp (M_lowest_6 x0 x2 x4 t fu x5 x7) (fun _ => True)
  | n, 0, x5, x7, hn, hz, hf => absurd hf (by omega)
  | n, fu + 1, x5, x7, hn, hz, hf => by
    rw [M_lowest_6]
    refine wi (fun c => ?_) (fun c => wi (fun q => absurd q c) (fun _ => ?_))
    · have h5 : ¬ x5 = 0 := hz.resolve_right (fun q => q c)
      have w : ∀ y : Int64, wp (M_lowest_41 x5 y t) (fun _ => True) := fun y => by
        unfold M_lowest_41
        exact wi (fun q => absurd q h5) (fun _ => ws trivial)
      exact wi (fun _ => w _) (fun _ => w _)
    · have hr := rem64 x5 x7 c
      generalize x5 - x5 / x7 * x7 = r at hr
      have h7 : x7.toInt ≠ 0 := fun q => c (Int64.toInt_inj.mp q)
      have hb : r.toInt.natAbs < x7.toInt.natAbs := by
        rw [hr, Int.natAbs_tmod]; exact Nat.mod_lt _ (by omega)
      obtain ⟨n, rfl⟩ : ∃ m, n = m + 1 := ⟨n - 1, by
        rcases n with - | n
        · simp at hn; omega
        · omega⟩
      by_cases q : r.toInt.natAbs < 2 ^ n
      · exact V_low6 n fu x7 r q (Or.inl c) (by omega)
      · obtain ⟨fu, rfl⟩ : ∃ m, fu = m + 1 := ⟨fu - 1, by omega⟩
        have hr0 : ¬ r = 0 := fun e => q (by rw [e]; exact Nat.pos_of_ne_zero (by simp))
        rw [M_lowest_6]
        refine wi (fun q => absurd q hr0) (fun _ => wi (fun q => absurd q hr0) (fun _ => ?_))
        have hr2 := rem64 x7 r hr0
        refine V_low6 n fu r _ ?_ (Or.inl hr0) (by omega)
        rw [hr2, Int.natAbs_tmod]
        have e : x7.toInt.natAbs % r.toInt.natAbs = x7.toInt.natAbs - r.toInt.natAbs := by
          rw [Nat.mod_eq_sub_mod (by omega)]
          exact Nat.mod_eq_of_lt (by rw [Nat.pow_succ] at hn; omega)
        rw [e]
        rw [Nat.pow_succ] at hn
        omega
theorem V_lowest {x0 x2 : Int64} {x4 : Int32} {t : sg} (h : ¬ x2 = 0) : wp (M_lowest x0 x2 x4 t) (fun _ => True) := by
  unfold M_lowest
  refine V_low6 64 FU x0 x2 ?_ (Or.inr h) (by decide)
  have h1 := Int64.minValue_le_toInt x2
  have h2 := Int64.toInt_le x2
  have e1 : Int64.minValue.toInt = -9223372036854775808 := by decide
  have e2 : Int64.maxValue.toInt = 9223372036854775807 := by decide
  rw [e1] at h1
  rw [e2] at h2
  omega
def p10 : Nat → Int64
  | 0 => 1
  | n + 1 => p10 n * 10
theorem p10_ne : ∀ n : Nat, n < 9 → ¬ p10 n = 0 := by decide
theorem sh_n : ∀ n : Nat, n < 9 → (nI 1) <<< (nI n &&& 31) = nI (2 ^ n) := by decide
section MF
variable {t t0 : sg} {g R h h0 : Nat} {x x1 x2 x3 x4 x5 : Int32}
theorem V_bf54 {n : Nat} {x6 x8 : Int64} {x10 : Int32} {k32 : Int64 → Int32 → sg → Option (Int64 × sg)} (hx : x2 = -4 ∨ ∃ j : Nat, j < 6 ∧ x2 = nI j) (hn : n ≤ 8) (hk : ∀ y t, offM t0 t → wp (k32 y (x10 + nI 1) t) (fun v => offM t0 v.2)) : ∀ (m q fu h : Nat) (x11 : Int64) (t : sg), offM t0 t → PG t 208 R h → h + m < 2 ^ 29 → q + m = n → m < fu → wp (M_byFuse_54 k32 x1 x2 (nI n) x4 x5 x6 x8 x10 fu x11 (nI q) t) (fun v => offM t0 v.2)
  | m, q, 0, h, x11, t, o, P, hh, hr, hf => absurd hf (by omega)
  | m, q, fu + 1, h, x11, t, o, P, hh, hr, hf => by
    rw [M_byFuse_54]
    refine wi (fun c => ?_) (fun _ => wi (fun _ => ?_) (fun c => ?_))
    · rw [nI_ltI (by omega) (by omega)] at c
      obtain ⟨m, rfl⟩ : ∃ k, m = k + 1 := ⟨m - 1, by omega⟩
      have w : ∀ (y1 : Int32) (y2 y3 : Int64), wp (M_byFuse_95 k32 (M_byFuse_54 k32 x1 x2 (nI n) x4 x5 x6 x8 x10 fu) x1 x2 (nI n) x4 x5 x6 x8 x10 (nI q) y1 y2 y3 t) (fun v => offM t0 v.2) := fun y1 y2 y3 => by
        unfold M_byFuse_95
        refine wb (V_outOn P (by omega)) (fun v1 _ => wb (V_hourOn P) (fun t1 g1 => ?_))
        rw [nI_add]
        exact V_bf54 hx hn hk m (q + 1) fu (h + 1) _ t1 (o.tr (g1.2.m (by decide))) g1.1 (by omega) (by omega) (by omega)
      unfold M_byFuse_76
      exact wi (fun _ => wi (fun _ => w _ _ _) (fun _ => w _ _ _)) (fun _ => wi (fun _ => w _ _ _) (fun _ => w _ _ _))
    · exact wm rfl (by decide) (by decide) (wm rfl (by decide) (by decide) (hk _ _ o))
    · obtain ⟨j, hj, rfl⟩ := hx.resolve_left c
      exact wm (nI_add 208 j) (by omega) (by decide) (wi (fun _ => hk _ _ o) (fun _ => hk _ _ o))
theorem V_bf32 {n : Nat} {x8 : Int64} (P0 : PG t0 0 R h0) (hh : h0 ≤ 999) (h8 : ¬ x8 = 0) (hx : x2 = -4 ∨ ∃ j : Nat, j < 6 ∧ x2 = nI j) (hn : n ≤ 8) : ∀ (m q fu : Nat) (x6 : Int64) (t : sg), offM t0 t → q + m = 2 ^ n → m < fu → wp (M_byFuse_32 x1 x2 (nI n) x4 x5 x8 fu x6 (nI q) t) (fun v => offM t0 v.2)
  | m, q, 0, x6, t, o, hr, hf => absurd hf (by omega)
  | m, q, fu + 1, x6, t, o, hr, hf => by
    have hp : 2 ^ n ≤ 256 := Nat.pow_le_pow_right (n := 2) (by decide) hn
    rw [M_byFuse_32, sh_n n (by omega)]
    refine wi (fun c => ?_) (fun _ => wb (V_lowest h8) (fun _ _ => ws o))
    rw [nI_ltI (by omega) (by omega)] at c
    obtain ⟨m, rfl⟩ : ∃ k, m = k + 1 := ⟨m - 1, by omega⟩
    refine wb (V_copies (b := 208) (P0.m o (by decide)) (by decide) (by decide) (by decide)) (fun t1 g1 => ?_)
    refine V_bf54 hx hn (fun y t' o' => ?_) n 0 FU h0 _ t1 (o.tr g1.2) g1.1 (by omega) (by omega) (by show n < 100000; omega)
    rw [nI_add]
    exact V_bf32 P0 hh h8 hx hn m (q + 1) fu y t' o' (by omega) (by omega)
theorem V_bf9 {n : Nat} {x6 : Int64} (P0 : PG t 0 R h0) (hh : h0 ≤ 999) (hx : x2 = -4 ∨ ∃ j : Nat, j < 6 ∧ x2 = nI j) (hn : n ≤ 8) : ∀ (m q fu : Nat), q + m = n → m < fu → wp (M_byFuse_9 x1 x2 (nI n) x4 x5 x6 fu (p10 q) (nI q) t) (fun v => offM t v.2)
  | m, q, 0, hr, hf => absurd hf (by omega)
  | m, q, fu + 1, hr, hf => by
    rw [M_byFuse_9]
    have hp : 2 ^ n ≤ 256 := Nat.pow_le_pow_right (n := 2) (by decide) hn
    refine wi (fun c => ?_) (fun c => V_bf32 P0 hh (p10_ne q (by omega)) hx hn (2 ^ n) 0 FU x6 t offM.rf (by omega) (by show 2 ^ n < 100000; omega))
    rw [nI_ltI (by omega) (by omega)] at c
    obtain ⟨m, rfl⟩ : ∃ k, m = k + 1 := ⟨m - 1, by omega⟩
    rw [nI_add]
    exact V_bf9 P0 hh hx hn m (q + 1) fu (by omega) (by omega)
theorem V_byFuse {n : Nat} (P0 : PG t 0 R h0) (hh : h0 ≤ 999) (hx : x2 = -4 ∨ ∃ j : Nat, j < 6 ∧ x2 = nI j) (hn : n ≤ 8) : wp (M_byFuse x1 x2 (nI n) x4 x5 t) (fun v => offM t v.2) := by
  unfold M_byFuse
  exact V_bf9 P0 hh hx hn n 0 FU (by omega) (by show n < 100000; omega)
theorem V_M_luck (P : PG t 0 R h) (hh : h ≤ 999) : wp (M_luck x1 x2 x3 x4 x5 t) (fun v => offM t v.2) := by
  have h6 := P.2.1
  unfold M_luck
  refine wbB (V_inN (a := 0) (c := 10) rfl rfl (by decide) (by decide)) (ws offM.rf) (fun _ => wbB (V_isRoom P) (ws offM.rf) (fun q0 => wbB (V_inN (a := 0) (c := 8) rfl rfl (by decide) (by decide)) (ws offM.rf) (fun q => wbB (V_inN (a := 0) (c := 99) rfl rfl (by decide) (by decide)) (ws offM.rf) (fun _ => wbB (V_inN (a := 0) (c := 1) rfl rfl (by decide) (by decide)) (ws offM.rf) (fun _ => ?_)))))
  obtain ⟨j, hj, rfl⟩ := q0
  obtain ⟨N, -, hN, rfl⟩ := q
  exact wb (V_byFuse P hh (Or.inr ⟨j, by omega, rfl⟩) hN) (fun v o => ws o)
theorem V_M_mean (P : PG t 0 R h) (hh : h ≤ 999) : wp (M_mean x1 x2 x3 t) (fun v => offM t v.2) := by
  unfold M_mean
  refine wbB (V_inN (a := 0) (c := 10) rfl rfl (by decide) (by decide)) (ws offM.rf) (fun _ => wbB (V_inN (a := 0) (c := 8) rfl rfl (by decide) (by decide)) (ws offM.rf) (fun q => wbB (V_inN (a := 0) (c := 1) rfl rfl (by decide) (by decide)) (ws offM.rf) (fun _ => ?_)))
  obtain ⟨N, -, hN, rfl⟩ := q
  exact wb (V_byFuse P hh (Or.inl rfl) hN) (fun v o => ws o)
/-- what was felt -/
def SN (t : sg) : Prop := ∃ m : Nat, m ≤ 6 ∧ t 10 22 = nI m ∧ ∀ e : Nat, e < m → ∃ j : Nat, j < 6 ∧ t 17 (3 * e + 1) = nI j
def offN (w : Nat) (t t' : sg) : Prop := ∀ p k, ¬ (p = 11 ∧ (156 ≤ k ∨ k = w)) → p ≠ 16 → p ≠ 18 → ¬ (p = 10 ∧ (k = 19 ∨ k = 20)) → t' p k = t p k
theorem offN.rf {w : Nat} {t : sg} : offN w t t := fun _ _ _ _ _ _ => rfl
theorem offN.tr {w : Nat} {t t' t'' : sg} (h1 : offN w t t') (h2 : offN w t' t'') : offN w t t'' := fun p k a b c d => (h2 p k a b c d).trans (h1 p k a b c d)
theorem offM.n {w : Nat} {t t' : sg} (o : offM t t') : offN w t t' := fun p k a b c d => o p k (fun q => a ⟨q.1, Or.inl q.2⟩) b c d
theorem offN.u {w : Nat} {t : sg} {v : Int32} : offN w t (up t 11 w v) := fun p j a _ _ _ => if_neg (fun q => a ⟨q.1, Or.inr q.2⟩)
theorem SN.n {w : Nat} {t t' : sg} (S : SN t) (o : offN w t t') : SN t' := by
  obtain ⟨m, hm, e, S⟩ := S
  refine ⟨m, hm, (o 10 22 (by omega) (by decide) (by decide) (by omega)).trans e, fun i hi => ?_⟩
  rw [o 17 _ (by omega) (by decide) (by decide) (by omega)]
  exact S i hi
theorem PG.n {w : Nat} {t t' : sg} {R h : Nat} (P : PG t 0 R h) (o : offN w t t') (hw : w ≠ 49) : PG t' 0 R h := ⟨(o 10 1 (by omega) (by decide) (by decide) (by omega)).trans P.1, P.2.1, P.2.2.1, (o 11 _ (by omega) (by decide) (by decide) (by omega)).trans P.2.2.2⟩
theorem PG.u18 {t : sg} {g R h k : Nat} {v : Int32} (P : PG t g R h) : PG (up t 18 k v) g R h := ⟨(up_p (by decide)).trans P.1, P.2.1, P.2.2.1, (up_p (by decide)).trans P.2.2.2⟩
theorem V_as67 {k12 : Int32 → Int32 → sg → Option (Int32 × sg)} {y : Int32} (S : SN t) (P : PG t 208 R h) (o : offM t0 t) (hh : h < 2 ^ 29) (hk : ∀ b t', b = nI 0 ∨ b = nI 1 → offM t0 t' → PG t' 208 R (h + 1) → wp (k12 b (y + nI 1) t') (fun v => offM t0 v.2)) : ∀ (m q fu : Nat) (b : Int32), (b = nI 0 ∨ b = nI 1) → t 10 22 = nI (q + m) → q + m ≤ 6 → m < fu → wp (M_isAsSeen_67 k12 x1 y fu b (nI q) t) (fun v => offM t0 v.2)
  | m, q, 0, b, hb, e, hr, hf => absurd hf (by omega)
  | m, q, fu + 1, b, hb, e, hr, hf => by
    obtain ⟨m', hm', e', S'⟩ := S
    have em : m' = q + m := (nI_eq (by omega) (by omega)).mp (e'.symm.trans e)
    subst em
    rw [M_isAsSeen_67, e]
    refine wi (fun c => ?_) (fun _ => wb (V_goesOn P (by omega)) (fun t1 g1 => hk b t1 hb (o.tr (g1.2.m (by decide))) g1.1))
    rw [nI_ltI (by omega) (by omega)] at c
    obtain ⟨m, rfl⟩ : ∃ k, m = k + 1 := ⟨m - 1, by omega⟩
    have k : ∀ b : Int32, (b = nI 0 ∨ b = nI 1) → wp (M_isAsSeen_67 k12 x1 y fu b (nI q + nI 1) t) (fun v => offM t0 v.2) := fun b hb => by
      rw [nI_add]
      exact V_as67 ⟨_, hm', e', S'⟩ P o hh hk m (q + 1) fu b hb (by rw [e]; congr 1; omega) (by omega) (by omega)
    obtain ⟨j, hj, ej⟩ := S' q (by omega)
    have k127 : wp (M_isAsSeen_127 k12 (M_isAsSeen_67 k12 x1 y fu) x1 y (nI q) t) (fun v => offM t0 v.2) := k _ (Or.inr rfl)
    refine wi (fun _ => k _ (Or.inl rfl)) (fun _ => ?_)
    refine wm (pk_mul 3 q) (by omega) (by decide) (wi (fun _ => ?_) (fun _ => k127))
    refine wm (by rw [pk_mul, nI_add]) (show 3 * q + 1 < 18 by omega) (by decide) (wm (by rw [ej, nI_add]) (show 208 + j < 312 by omega) (by decide) ?_)
    exact wm (by rw [pk_mul, nI_add]) (show 3 * q + 2 < 18 by omega) (by decide) (wi (fun _ => k127) (fun _ => k _ (Or.inl rfl)))
theorem V_as21 {k12 : Int32 → Int32 → sg → Option (Int32 × sg)} {a y : Nat} {b : Int32} (S0 : SN t0) (hb : b = nI 0 ∨ b = nI 1) (ha : a < 10) (hy : y ≤ 20) (hh : h < 2 ^ 29) (hk : ∀ b t', b = nI 0 ∨ b = nI 1 → offM t0 t' → PG t' 208 R (h + 1) → wp (k12 b (nI y + nI 1) t') (fun v => offM t0 v.2)) : ∀ (m q fu : Nat) (t : sg), PG t 208 R h → offM t0 t → q + m = R → m < fu → wp (M_isAsSeen_21 k12 (nI a) b (nI y) fu (nI q) t) (fun v => offM t0 v.2)
  | m, q, 0, t, P, o, hr, hf => absurd hf (by omega)
  | m, q, fu + 1, t, P, o, hr, hf => by
    have h6 := P.2.1
    rw [M_isAsSeen_21, P.1]
    refine wi (fun c => ?_) (fun _ => ?_)
    · rw [nI_ltI (by omega) (by omega)] at c
      obtain ⟨m, rfl⟩ : ∃ k, m = k + 1 := ⟨m - 1, by omega⟩
      refine wm (nI_add 208 q) (by omega) (by decide) (wm (by rw [pk_mul, pk_mul, nI_add, nI_add]) (show 126 * a + 6 * y + q < 1260 by omega) (by decide) (wsb ?_))
      rw [nI_add]
      exact V_as21 S0 hb ha hy hh hk m (q + 1) fu _ P.u18 (o.tr offM.u18) (by omega) (by omega)
    · obtain ⟨m', hm', e', S'⟩ := S0.n (w := 0) o.n
      exact V_as67 ⟨m', hm', e', S'⟩ P o hh hk m' 0 FU b hb (by rw [e', Nat.zero_add]) (by omega) (by show m' < 100000; omega)
theorem V_as12 {a : Nat} (S0 : SN t0) (ha : a < 10) : ∀ (m q fu h : Nat) (b : Int32) (t : sg), (b = nI 0 ∨ b = nI 1) → PG t 208 R h → offM t0 t → h + m < 2 ^ 29 → q + m = 21 → m < fu → wp (M_isAsSeen_12 (nI a) fu b (nI q) t) (fun v => offM t0 v.2)
  | m, q, 0, h, b, t, hb, P, o, hh, hr, hf => absurd hf (by omega)
  | m, q, fu + 1, h, b, t, hb, P, o, hh, hr, hf => by
    rw [M_isAsSeen_12]
    refine wi (fun _ => wi (fun _ => ws o) (fun c => absurd hb c)) (fun c => ?_)
    rw [nI_ltI (by decide) (by omega)] at c
    obtain ⟨m, rfl⟩ : ∃ k, m = k + 1 := ⟨m - 1, by omega⟩
    refine V_as21 S0 hb ha (by omega) (by omega) (fun b' t' hb' o' P' => ?_) R 0 FU t P o (by omega) (by have := P.2.1; show R < 100000; omega)
    rw [nI_add]
    exact V_as12 S0 ha m (q + 1) fu (h + 1) b' t' hb' P' o' (by omega) (by omega) (by omega)
theorem V_isAsSeen {a : Nat} (S : SN t) (P : PG t 0 R h) (hh : h ≤ 999) (ha : a < 10) : wp (M_isAsSeen (nI a) t) (fun v => offM t v.2) := by
  unfold M_isAsSeen
  exact wb (V_copies (b := 208) P (by decide) (by decide) (by decide)) (fun t1 g1 => V_as12 S ha 21 0 FU h _ t1 (Or.inr rfl) g1.1 g1.2 (by omega) (by omega) (by decide))
theorem V_na14 {w N : Nat} (S0 : SN t0) (P0 : PG t0 0 R h) (hh : h ≤ 999) (hw : w ≠ 49) (hw2 : w < 52) (hN : N ≤ 10) : ∀ (m q fu : Nat) (x5 : Int32) (t : sg), offN w t0 t → q + m = N → m < fu → wp (M_numbersAt_14 (nI w) x2 (nI N) (t0 11 w) fu x5 (nI q) t) (fun v => offM t0 v.2)
  | m, q, 0, x5, t, o, hr, hf => absurd hf (by omega)
  | m, q, fu + 1, x5, t, o, hr, hf => by
    rw [M_numbersAt_14]
    refine wi (fun c => ?_) (fun _ => wm rfl (by omega) (by decide) (wsb (ws (fun p k a b c d => ?_))))
    · rw [nI_ltI (by omega) (by omega)] at c
      obtain ⟨m, rfl⟩ : ∃ k, m = k + 1 := ⟨m - 1, by omega⟩
      refine wm rfl (by omega) (by decide) (wsb ?_)
      have o1 : offN w t0 (up t 11 w (x2 + nI q)) := o.tr offN.u
      refine wb (V_isAsSeen (S0.n o1) (P0.n o1 hw) hh (by omega)) (fun v hv => ?_)
      have o2 := o1.tr (offM.n hv)
      simp only [nI_add]
      exact wi (fun _ => V_na14 S0 P0 hh hw hw2 hN m (q + 1) fu _ v.2 o2 (by omega) (by omega)) (fun _ => V_na14 S0 P0 hh hw hw2 hN m (q + 1) fu _ v.2 o2 (by omega) (by omega))
    · show up t 11 w (t0 11 w) p k = t0 p k
      by_cases e : p = 11 ∧ k = w
      · rw [e.1, e.2, up_eq]
      · rw [up, if_neg e]
        exact o p k (fun z => z.2.elim (fun z2 => a ⟨z.1, z2⟩) (fun z2 => e ⟨z.1, z2⟩)) b c d
theorem V_numbersAt {w N : Nat} (S : SN t) (P : PG t 0 R h) (hh : h ≤ 999) (hw : w ≠ 49) (hw2 : w < 52) (hN : N ≤ 10) : wp (M_numbersAt (nI w) x2 (nI N) t) (fun v => offM t v.2) := by
  unfold M_numbersAt
  exact wm rfl (by omega) (by decide) (V_na14 S P hh hw hw2 hN N 0 FU _ t offN.rf (by omega) (by show N < 100000; omega))
theorem V_M_kinds (S : SN t) (P : PG t 0 R h) (hh : h ≤ 999) : wp (M_kinds x1 t) (fun v => offM t v.2) := by
  have h6 := P.2.1
  unfold M_kinds
  refine wbB (V_isRoom P) (ws offM.rf) (fun q0 => ?_)
  obtain ⟨j, hj, rfl⟩ := q0
  refine wbB (V_hasTongue (by omega)) (ws offM.rf) (fun _ => ?_)
  rw [nI_add]
  exact wb (V_numbersAt S P hh (by omega) (by omega) (by decide)) (fun v o => ws o)
theorem V_M_lets (S : SN t) (P : PG t 0 R h) (hh : h ≤ 999) : wp (M_lets x1 t) (fun v => offM t v.2) := by
  have h6 := P.2.1
  unfold M_lets
  refine wbB (V_isWall P) (ws offM.rf) (fun q0 => ?_)
  obtain ⟨j, hj, rfl⟩ := q0
  rw [nI_add]
  exact wb (V_numbersAt S P hh (by omega) (by omega) (by decide)) (fun v o => ws o)
theorem V_wo18 {k5 : Int32 → Int32 → Option Int32} {a z : Nat} (ha : a < 10) (hz : z < 126) (hk : ∀ y, wp (k5 y (nI a + nI 1)) (fun _ => True)) : ∀ (m q fu : Nat) (x5 : Int32), q + m = 10 → m < fu → wp (M_worstAt_18 k5 x1 (nI z) x3 (nI a) t fu x5 (nI q)) (fun _ => True)
  | m, q, 0, x5, hr, hf => absurd hf (by omega)
  | m, q, fu + 1, x5, hr, hf => by
    rw [M_worstAt_18]
    have w88 : ∀ y : Int32, wp (M_worstAt_88 k5 x1 (nI z) x3 (nI a) y t) (fun _ => True) := fun y => by
      unfold M_worstAt_88
      exact wi (fun _ => hk _) (fun _ => hk _)
    refine wi (fun _ => w88 _) (fun c => ?_)
    rw [nI_ltI (by decide) (by omega)] at c
    obtain ⟨m, rfl⟩ : ∃ k, m = k + 1 := ⟨m - 1, by omega⟩
    have k : ∀ y : Int32, wp (M_worstAt_18 k5 x1 (nI z) x3 (nI a) t fu y (nI q + nI 1)) (fun _ => True) := fun y => by
      rw [nI_add]; exact V_wo18 ha hz hk m (q + 1) fu y (by omega) (by omega)
    exact wi (fun _ => wi (fun _ => wm (by rw [pk_mul, nI_add]) (show 126 * a + z < 1260 by omega) (by decide) (wm (by rw [pk_mul, nI_add]) (show 126 * q + z < 1260 by omega) (by decide) (wi (fun _ => k _) (fun _ => k _)))) (fun _ => k _)) (fun _ => w88 _)
theorem V_wo5 {z : Nat} (hz : z < 126) : ∀ (m q fu : Nat) (x3 : Int32), q + m = 10 → m < fu → wp (M_worstAt_5 x1 (nI z) t fu x3 (nI q)) (fun _ => True)
  | m, q, 0, x3, hr, hf => absurd hf (by omega)
  | m, q, fu + 1, x3, hr, hf => by
    rw [M_worstAt_5]
    refine wi (fun _ => ws trivial) (fun c => ?_)
    rw [nI_ltI (by decide) (by omega)] at c
    obtain ⟨m, rfl⟩ : ∃ k, m = k + 1 := ⟨m - 1, by omega⟩
    refine V_wo18 (by omega) hz (fun y => ?_) 10 0 FU _ (by omega) (by decide)
    rw [nI_add]
    exact V_wo5 hz m (q + 1) fu y (by omega) (by omega)
theorem V_worstAt {z : Nat} (hz : z < 126) : wp (M_worstAt x1 (nI z) t) (fun _ => True) := by
  unfold M_worstAt
  exact V_wo5 hz 10 0 FU _ (by omega) (by decide)
theorem V_ask80 {k70 : Int32 → Int32 → Int32 → sg → Option (Int32 × sg)} {a : Nat} (P : PG t 0 R h) (ha : a ≤ 20) (hk : ∀ y4 y5, wp (k70 y4 y5 (nI a + nI 1) t) (fun v => offM t0 v.2)) : ∀ (m q fu : Nat) (x4 x5 : Int32), q + m = R → m < fu → wp (M_ask_80 k70 x2 x3 (nI a) fu x4 x5 (nI q) t) (fun v => offM t0 v.2)
  | m, q, 0, x4, x5, hr, hf => absurd hf (by omega)
  | m, q, fu + 1, x4, x5, hr, hf => by
    have h6 := P.2.1
    rw [M_ask_80, P.1]
    refine wi (fun c => ?_) (fun _ => hk _ _)
    rw [nI_ltI (by omega) (by omega)] at c
    obtain ⟨m, rfl⟩ : ∃ k, m = k + 1 := ⟨m - 1, by omega⟩
    have k : ∀ y4 y5 : Int32, wp (M_ask_80 k70 x2 x3 (nI a) fu y4 y5 (nI q + nI 1) t) (fun v => offM t0 v.2) := fun y4 y5 => by
      rw [nI_add]; exact V_ask80 P ha hk m (q + 1) fu y4 y5 (by omega) (by omega)
    unfold M_ask_124
    rw [pk_mul 6 a, nI_add]
    exact wb (V_worstAt (by omega)) (fun v _ => wi (fun _ => wi (fun _ => k _ _) (fun _ => k _ _)) (fun _ => wi (fun _ => k _ _) (fun _ => k _ _)))
theorem V_ask70 (P : PG t 0 R h) (o : offM t0 t) : ∀ (m q fu : Nat) (x4 x5 : Int32), q + m = 21 → m < fu → wp (M_ask_70 x2 x3 fu x4 x5 (nI q) t) (fun v => offM t0 v.2)
  | m, q, 0, x4, x5, hr, hf => absurd hf (by omega)
  | m, q, fu + 1, x4, x5, hr, hf => by
    rw [M_ask_70]
    refine wi (fun _ => wi (fun _ => ws o) (fun _ => wi (fun _ => ws o) (fun _ => ws o))) (fun c => ?_)
    rw [nI_ltI (by decide) (by omega)] at c
    obtain ⟨m, rfl⟩ : ∃ k, m = k + 1 := ⟨m - 1, by omega⟩
    refine V_ask80 P (by omega) (fun y4 y5 => ?_) R 0 FU x4 x5 (by omega) (by have := P.2.1; show R < 100000; omega)
    rw [nI_add]
    exact V_ask70 P o m (q + 1) fu y4 y5 (by omega) (by omega)
theorem V_ask39 (P : PG t 0 R h) (o : offM t0 t) : ∀ (m q fu : Nat) (x4 : Int32), q + m = 10 → m < fu → wp (M_ask_39 x2 x3 fu x4 (nI q) t) (fun v => offM t0 v.2)
  | m, q, 0, x4, hr, hf => absurd hf (by omega)
  | m, q, fu + 1, x4, hr, hf => by
    rw [M_ask_39]
    refine wi (fun _ => V_ask70 P o 21 0 FU _ _ (by omega) (by decide)) (fun c => ?_)
    rw [nI_ltI (by decide) (by omega)] at c
    obtain ⟨m, rfl⟩ : ∃ k, m = k + 1 := ⟨m - 1, by omega⟩
    rw [nI_add]
    exact V_ask39 P o m (q + 1) fu _ (by omega) (by omega)
theorem V_M_ask (S : SN t) (P : PG t 0 R h) (hh : h ≤ 999) : wp (M_ask x1 x2 t) (fun v => offM t v.2) := by
  have h6 := P.2.1
  unfold M_ask
  refine wbB (V_isWall P) (ws offM.rf) (fun q0 => wbB (V_inN (a := 0) (c := 1) rfl rfl (by decide) (by decide)) (ws offM.rf) (fun _ => ?_))
  obtain ⟨j, hj, rfl⟩ := q0
  rw [nI_add]
  exact wb (V_numbersAt S P hh (by omega) (by omega) (by decide)) (fun v o => V_ask39 (P.m o (by decide)) o 10 0 FU _ (by omega) (by decide))
end MF
