/-! the reference's questions -/
def offM (t t' : sg) : Prop := ∀ p k, ¬ (p = 11 ∧ 156 ≤ k) → p ≠ 16 → p ≠ 18 → ¬ (p = 10 ∧ (k = 19 ∨ k = 20)) → t' p k = t p k
theorem offM.rf {t : sg} : offM t t := fun _ _ _ _ _ _ => rfl
theorem offM.tr {t t' t'' : sg} (h1 : offM t t') (h2 : offM t' t'') : offM t t'' := fun p k a b c d => (h2 p k a b c d).trans (h1 p k a b c d)
theorem offP.m {g : Nat} {t t' : sg} (o : offP g t t') (hg : 156 ≤ g) : offM t t' := fun p k a b _ _ => o p k (fun w => a ⟨w.1, by omega⟩) b
theorem offM.u11 {t : sg} {k : Nat} {v : Int32} (hk : 156 ≤ k) : offM t (up t 11 k v) := fun p j a _ _ _ => if_neg (fun w => a ⟨w.1, by omega⟩)
theorem offM.u10 {t : sg} {k : Nat} {v : Int32} (hk : k = 19 ∨ k = 20) : offM t (up t 10 k v) := fun p j _ _ _ d => if_neg (fun w => d ⟨w.1, by omega⟩)
theorem offM.u18 {t : sg} {k : Nat} {v : Int32} : offM t (up t 18 k v) := fun p j _ _ c _ => if_neg (fun w => c w.1)
theorem PG.m {t t' : sg} {g R h : Nat} (P : PG t g R h) (o : offM t t') (hg : g + 49 < 156) : PG t' g R h := ⟨(o 10 1 (by omega) (by decide) (by decide) (by omega)).trans P.1, P.2.1, P.2.2.1, (o 11 _ (by omega) (by decide) (by decide) (by omega)).trans P.2.2.2⟩
theorem l64n {x : Int32} {n : Nat} (hn : n < 2 ^ 31) : (x.toInt64 < (nI n).toInt64) ↔ x < nI n := by
  rw [Int64.lt_iff_toInt_lt, Int32.lt_iff_toInt_lt, Int32.toInt_toInt64, Int32.toInt_toInt64]
theorem l64s (x y : Int32) : (x.toInt64 < y.toInt64) ↔ x < y := by
  rw [Int64.lt_iff_toInt_lt, Int32.lt_iff_toInt_lt, Int32.toInt_toInt64, Int32.toInt_toInt64]
section MQ
variable {t : sg} {g R h : Nat} {x x1 x2 x3 x4 x5 : Int32}
theorem V_in {lo hi : Int32} {l u : Int64} (hl : l = lo.toInt64) (hu : u = hi.toInt64) : wp (M_in x.toInt64 l u t) (yn (¬ x < lo ∧ ¬ hi < x)) := by
  subst hl; subst hu
  unfold M_in
  refine wi (fun _ => ws (Or.inl rfl)) (fun c => wi (fun _ => ws (Or.inl rfl)) (fun c2 => ws (Or.inr ⟨rfl, ?_⟩)))
  rw [l64s] at c c2
  exact ⟨c, c2⟩
theorem V_inN {a c : Nat} {l u : Int64} (hl : l = (nI a).toInt64) (hu : u = (nI c).toInt64) (ha : a < 2 ^ 31) (hc : c < 2 ^ 31) : wp (M_in x.toInt64 l u t) (yn (∃ j, a ≤ j ∧ j ≤ c ∧ x = nI j)) := by
  refine wc (V_in hl hu) (fun v hv => ?_)
  rcases hv with q | ⟨q, q2⟩
  · exact Or.inl q
  · exact Or.inr ⟨q, in_nI hc q2 ha⟩
theorem V_isRoom (P : PG t g R h) : wp (M_isRoom x1 t) (yn (∃ j, j < R ∧ x1 = nI j)) := by
  unfold M_isRoom
  have h6 := P.2.1
  rw [P.1]
  refine wb (V_in (lo := nI 0) (hi := nI R - nI 1) rfl rfl) (fun v hv => wi (fun _ => ws ?_) (fun q => absurd (hv.imp (fun e => e) (fun e => e.1)) q))
  rcases hv with q | ⟨q, q1, q2⟩
  · exact Or.inl q
  · refine Or.inr ⟨q, ?_⟩
    have h0 : ¬ x1 < 0 := q1
    obtain ⟨j, hj, rfl⟩ := nI_of h0
    refine ⟨j, ?_, rfl⟩
    rw [Int32.lt_iff_toInt_lt, pk_sub_toInt (by omega) (by decide), nI_toInt hj] at q2
    omega
theorem V_isWall (P : PG t g R h) : wp (M_isWall x1 t) (yn (∃ j, j + 1 < R ∧ x1 = nI j)) := by
  unfold M_isWall
  have h6 := P.2.1
  rw [P.1]
  refine wb (V_in (lo := nI 0) (hi := nI R - nI 2) rfl rfl) (fun v hv => wi (fun _ => ws ?_) (fun q => absurd (hv.imp (fun e => e) (fun e => e.1)) q))
  rcases hv with q | ⟨q, q1, q2⟩
  · exact Or.inl q
  · refine Or.inr ⟨q, ?_⟩
    have h0 : ¬ x1 < 0 := q1
    obtain ⟨j, hj, rfl⟩ := nI_of h0
    refine ⟨j, ?_, rfl⟩
    rw [Int32.lt_iff_toInt_lt, pk_sub_toInt (by omega) (by decide), nI_toInt hj] at q2
    omega
theorem V_hasTongue {j : Nat} (hj : j < 6) : wp (M_hasTongue (nI j) t) (yn True) := by
  unfold M_hasTongue
  rw [nI_add]
  exact wm rfl (by omega) (by decide) (wi (fun _ => ws (Or.inr ⟨rfl, trivial⟩)) (fun _ => ws (Or.inl rfl)))
theorem V_warm4 (P : PG t 0 R h) (hg : g + 52 ≤ 312) : ∀ (n r fu : Nat) (x2 : Int32), r + n = R → n < fu → wp (M_warmthOn_4 (nI g) t fu x2 (nI r)) (fun _ => True)
  | n, r, 0, x2, hr, hf => absurd hf (by omega)
  | n, r, fu + 1, x2, hr, hf => by
    have h6 := P.2.1
    rw [M_warmthOn_4, P.1]
    refine wi (fun c => ?_) (fun _ => ws trivial)
    rw [nI_ltI (by omega) (by omega)] at c
    obtain ⟨n, rfl⟩ : ∃ m, n = m + 1 := ⟨n - 1, by omega⟩
    rw [nI_add, nI_add]
    exact wm rfl (by omega) (by decide) (V_warm4 P hg n (r + 1) fu _ (by omega) (by omega))
theorem V_warmthOn (P : PG t 0 R h) (hg : g + 52 ≤ 312) : wp (M_warmthOn (nI g) t) (fun _ => True) := by
  unfold M_warmthOn
  exact V_warm4 P hg R 0 FU _ (by omega) (by have := P.2.1; show R < 100000; omega)
theorem V_on4 (P : PG t 0 R h) (hg : g + 52 ≤ 312) : ∀ (n r fu : Nat) (x2 : Int32), r + n = R → n < fu → wp (M_onOn_4 (nI g) t fu x2 (nI r)) (fun _ => True)
  | n, r, 0, x2, hr, hf => absurd hf (by omega)
  | n, r, fu + 1, x2, hr, hf => by
    have h6 := P.2.1
    rw [M_onOn_4, P.1]
    refine wi (fun c => ?_) (fun _ => ws trivial)
    rw [nI_ltI (by omega) (by omega)] at c
    obtain ⟨n, rfl⟩ : ∃ m, n = m + 1 := ⟨n - 1, by omega⟩
    rw [nI_add, nI_add, nI_add]
    exact wm rfl (by omega) (by decide) (V_on4 P hg n (r + 1) fu _ (by omega) (by omega))
theorem V_onOn (P : PG t 0 R h) (hg : g + 52 ≤ 312) : wp (M_onOn (nI g) t) (fun _ => True) := by
  unfold M_onOn
  exact V_on4 P hg R 0 FU _ (by omega) (by have := P.2.1; show R < 100000; omega)
theorem V_cold17 (P : PG t 0 R h) (hg : g + 52 ≤ 312) : ∀ (n r fu : Nat) (x2 : Int32), r + n = R → n < fu → wp (M_coldestOn_17 (nI g) t fu x2 (nI r)) (fun _ => True)
  | n, r, 0, x2, hr, hf => absurd hf (by omega)
  | n, r, fu + 1, x2, hr, hf => by
    have h6 := P.2.1
    rw [M_coldestOn_17, P.1]
    refine wi (fun c => ?_) (fun _ => ws trivial)
    rw [nI_ltI (by omega) (by omega)] at c
    obtain ⟨n, rfl⟩ : ∃ m, n = m + 1 := ⟨n - 1, by omega⟩
    simp only [nI_add]
    exact wm rfl (by omega) (by decide) (wi (fun _ => wm rfl (by omega) (by decide) (V_cold17 P hg n (r + 1) fu _ (by omega) (by omega))) (fun _ => V_cold17 P hg n (r + 1) fu _ (by omega) (by omega)))
theorem V_coldestOn (P : PG t 0 R h) (hg : g + 52 ≤ 312) : wp (M_coldestOn (nI g) t) (fun _ => True) := by
  unfold M_coldestOn
  have := P.2.1
  exact wi (fun _ => V_cold17 P hg R 0 FU _ (by omega) (by show R < 100000; omega)) (fun _ => V_cold17 P hg R 0 FU _ (by omega) (by show R < 100000; omega))
/-- a page is copied onto another -/
def cpM (t : sg) (a b n : Nat) : sg := fun p k => if p = 11 ∧ b ≤ k ∧ k < b + n then t 11 (a + (k - b)) else t p k
theorem V_cop2 {a b : Nat} {t0 : sg} (ha : a + 52 ≤ 312) (hb : b + 52 ≤ 312) (hd : a + 52 ≤ b ∨ b + 52 ≤ a) : ∀ (n r fu : Nat), r + n = 52 → n < fu → M_copies_2 (nI a) (nI b) fu (nI r) (cpM t0 a b r) = some (cpM t0 a b 52)
  | n, r, 0, hr, hf => absurd hf (by omega)
  | n, r, fu + 1, hr, hf => by
    rw [M_copies_2]
    by_cases c : r < 52
    · rw [if_pos (by rw [nI_ltI (by omega) (by decide)]; exact c)]
      obtain ⟨n, rfl⟩ : ∃ m, n = m + 1 := ⟨n - 1, by omega⟩
      rw [nI_add, nI_add, nI_add, midx_nI (by omega) (by decide), midx_nI (by omega) (by decide)]
      show M_copies_2 (nI a) (nI b) fu (nI (r + 1)) (up (cpM t0 a b r) 11 (b + r) (cpM t0 a b r 11 (a + r))) = _
      have e : up (cpM t0 a b r) 11 (b + r) (cpM t0 a b r 11 (a + r)) = cpM t0 a b (r + 1) := by
        funext p k
        by_cases hp : p = 11
        · subst hp
          by_cases hk : k = b + r
          · subst hk
            rw [up_eq]
            simp (disch := omega) only [cpM, if_neg, if_pos, true_and]
            rw [show b + r - b = r by omega]
          · rw [up_k hk]
            by_cases q : b ≤ k ∧ k < b + r
            · simp (disch := omega) only [cpM, if_pos, true_and]
            · simp (disch := omega) only [cpM, if_neg]
        · rw [up_p hp]
          simp (disch := omega) only [cpM, if_neg]
      rw [e]
      exact V_cop2 ha hb hd n (r + 1) fu (by omega) (by omega)
    · rw [if_neg (by rw [nI_ltI (by omega) (by decide)]; exact c)]
      rw [show r = 52 by omega]
theorem copies_eq {a b : Nat} (ha : a + 52 ≤ 312) (hb : b + 52 ≤ 312) (hd : a + 52 ≤ b ∨ b + 52 ≤ a) : M_copies (nI a) (nI b) t = some (cpM t a b 52) := by
  unfold M_copies
  have e : cpM t a b 0 = t := by funext p k; exact if_neg (by omega)
  have := V_cop2 (t0 := t) ha hb hd 52 0 FU (by omega) (by decide)
  rw [e] at this
  exact this
theorem cpM_pg {a b : Nat} (P : PG t a R h) (hb : b + 52 ≤ 312) : PG (cpM t a b 52) b R h := by
  refine ⟨(if_neg (by omega)).trans P.1, P.2.1, hb, ?_⟩
  unfold cpM
  rw [if_pos ⟨rfl, by omega, by omega⟩, show a + (b + 49 - b) = a + 49 by omega]
  exact P.2.2.2
theorem cpM_m {a b : Nat} (hb : 156 ≤ b) : offM t (cpM t a b 52) := fun p k w1 _ _ _ => if_neg (fun w => w1 ⟨w.1, by omega⟩)
theorem V_copies {a b : Nat} (P : PG t a R h) (hb : 156 ≤ b) (hb2 : b + 52 ≤ 312) (hd : a + 52 ≤ b ∨ b + 52 ≤ a) : wp (M_copies (nI a) (nI b) t) (fun t' => PG t' b R h ∧ offM t t') := ⟨_, copies_eq P.2.2.1 hb2 hd, cpM_pg P hb2, cpM_m hb⟩
theorem PG.u10 {k : Nat} {v : Int32} (P : PG t g R h) (hk : k = 19 ∨ k = 20) : PG (up t 10 k v) g R h := ⟨(up_k (by omega)).trans P.1, P.2.1, P.2.2.1, (up_p (by decide)).trans P.2.2.2⟩
theorem V_hg27 {N : Nat} {t0 : sg} {h0 : Nat} (hN : N < 1000) (P0 : PG t0 0 R h0) : ∀ (n r fu h : Nat) (t : sg), offM t0 t → PG t 208 R h → h + n < 2 ^ 29 → r + n = N → n < fu → wp (M_hoursGo_27 (nI N) fu (nI r) t) (fun v => offM t0 v.2)
  | n, r, 0, h, t, o, P, hh, hr, hf => absurd hf (by omega)
  | n, r, fu + 1, h, t, o, P, hh, hr, hf => by
    rw [M_hoursGo_27]
    refine wi (fun c => ?_) (fun _ => wm rfl (by decide) (by decide) (wm rfl (by decide) (by decide) (ws o)))
    rw [nI_ltI (by omega) (by omega)] at c
    obtain ⟨n, rfl⟩ : ∃ m, n = m + 1 := ⟨n - 1, by omega⟩
    refine wb (V_goesOn P (by omega)) (fun t1 g1 => ?_)
    have o1 : offM t0 t1 := o.tr (g1.2.m (by decide))
    refine wb (V_coldestOn (P0.m o1 (by decide)) (by decide)) (fun v2 _ => ?_)
    have w : ∀ y0 : Int32, wp (M_hoursGo_67 (M_hoursGo_27 (nI N) fu) (nI N) (nI r) v2 y0 t1) (fun v => offM t0 v.2) := fun y0 => by
      unfold M_hoursGo_67 M_hoursGo_89
      have k : ∀ y1 : Int32, wp (M_hoursGo_27 (nI N) fu (nI r + nI 1) (up (up t1 10 19 y0) 10 20 y1)) (fun v => offM t0 v.2) := fun y1 => by
        rw [nI_add]
        exact V_hg27 hN P0 n (r + 1) fu (h + 1) _ ((o1.tr (offM.u10 (by omega))).tr (offM.u10 (by omega))) ((g1.1.u10 (by omega)).u10 (by omega)) (by omega) (by omega) (by omega)
      exact wsb (wi (fun _ => wsb (k _)) (fun _ => wsb (k _)))
    exact wi (fun _ => w _) (fun _ => w _)
theorem V_hoursGo {a N : Nat} {t0 : sg} {h0 : Nat} (hN : N < 1000) (P0 : PG t0 0 R h0) (o : offM t0 t) (P : PG t a R h) (hh : h < 2 ^ 28) (hd : a + 52 ≤ 208 ∨ 260 ≤ a) : wp (M_hoursGo (nI a) (nI N) t) (fun v => offM t0 v.2) := by
  unfold M_hoursGo
  refine wb (V_copies (b := 208) P (by decide) (by decide) (by omega)) (fun t1 g1 => ?_)
  have o1 := o.tr g1.2
  refine wb (V_coldestOn (P0.m o1 (by decide)) (by decide)) (fun v2 _ => wsb (wsb ?_))
  exact V_hg27 hN P0 N 0 FU h _ ((o1.tr (offM.u10 (by omega))).tr (offM.u10 (by omega))) ((g1.1.u10 (by omega)).u10 (by omega)) (by omega) (by omega) (by show N < 100000; omega)
theorem V_M_runs (P : PG t 0 R h) (hh : h ≤ 999) : wp (M_runs x1 x2 t) (fun v => offM t v.2) := by
  unfold M_runs
  refine wbB (V_inN (a := 0) (c := 60) rfl rfl (by decide) (by decide)) (ws offM.rf) (fun q => wbB (V_inN (a := 0) (c := 4) rfl rfl (by decide) (by decide)) (ws offM.rf) (fun _ => ?_))
  obtain ⟨N, -, hN, rfl⟩ := q
  refine wb (V_hoursGo (by omega) P offM.rf P (by omega) (by decide)) (fun v o => ?_)
  have P' := P.m o (by decide)
  exact wi (fun _ => ws o) (fun _ => wi (fun _ => wm rfl (by decide) (by decide) (wm rfl (by decide) (by decide) (ws o))) (fun _ => wi (fun _ => wb (V_warmthOn P' (by decide)) (fun _ _ => ws o)) (fun _ => wi (fun _ => ws o) (fun _ => wb (V_onOn P' (by decide)) (fun _ _ => ws o)))))
theorem V_M_ahead (P : PG t 0 R h) (hh : h ≤ 999) : wp (M_ahead x1 x2 x3 t) (fun v => offM t v.2) := by
  have h6 := P.2.1
  unfold M_ahead
  refine wbB (V_isRoom P) (ws offM.rf) (fun q0 => wbB (V_inN (a := 0) (c := 60) rfl rfl (by decide) (by decide)) (ws offM.rf) (fun q => wbB (V_inN (a := 0) (c := 1) rfl rfl (by decide) (by decide)) (ws offM.rf) (fun _ => ?_)))
  obtain ⟨j, hj, rfl⟩ := q0
  obtain ⟨N, -, hN, rfl⟩ := q
  refine wb (V_hoursGo (by omega) P offM.rf P (by omega) (by decide)) (fun v o => ?_)
  rw [nI_add, nI_add]
  exact wi (fun _ => wm rfl (by omega) (by decide) (ws o)) (fun _ => wm rfl (by omega) (by decide) (ws o))
theorem V_cold32 {j : Nat} {t0 : sg} (hj : j < 6) : ∀ (n r fu h : Nat) (t : sg), offM t0 t → PG t 208 R h → h + n < 2 ^ 29 → r + n = 61 → n < fu → wp (M_cold_32 (nI j) x2 fu (nI r) t) (fun v => offM t0 v.2)
  | n, r, 0, h, t, o, P, hh, hr, hf => absurd hf (by omega)
  | n, r, fu + 1, h, t, o, P, hh, hr, hf => by
    rw [M_cold_32]
    simp only [nI_add]
    refine wi (fun _ => ws o) (fun c => wm rfl (by omega) (by decide) (wi (fun _ => ?_) (fun _ => ws o)))
    rw [nI_ltI (by decide) (by omega)] at c
    obtain ⟨n, rfl⟩ : ∃ m, n = m + 1 := ⟨n - 1, by omega⟩
    exact wb (V_goesOn P (by omega)) (fun t1 g1 => V_cold32 hj n (r + 1) fu (h + 1) t1 (o.tr (g1.2.m (by decide))) g1.1 (by omega) (by omega) (by omega))
theorem V_M_cold (P : PG t 0 R h) (hh : h ≤ 999) : wp (M_cold x1 x2 t) (fun v => offM t v.2) := by
  have h6 := P.2.1
  unfold M_cold
  refine wbB (V_isRoom P) (ws offM.rf) (fun q0 => wbB (V_inN (a := 0) (c := 99) rfl rfl (by decide) (by decide)) (ws offM.rf) (fun _ => ?_))
  obtain ⟨j, hj, rfl⟩ := q0
  exact wb (V_copies (b := 208) P (by decide) (by decide) (by decide)) (fun t1 g1 => V_cold32 (by omega) 61 0 FU h t1 g1.2 g1.1 (by omega) (by omega) (by decide))
theorem V_ag38 {t0 : sg} {k10 : Int32 → sg → Option (Int32 × sg)} {y1 : Int32} (P : PG t 0 R h) (o : offM t0 t) (hk : wp (k10 (y1 + nI 1) t) (fun v => offM t0 v.2)) : ∀ (n r fu : Nat) (x2 : Int32), r + n = R → n < fu → wp (M_again_38 k10 y1 fu x2 (nI r) t) (fun v => offM t0 v.2)
  | n, r, 0, x2, hr, hf => absurd hf (by omega)
  | n, r, fu + 1, x2, hr, hf => by
    have h6 := P.2.1
    rw [M_again_38, P.1]
    refine wi (fun c => ?_) (fun _ => wi (fun _ => hk) (fun _ => ws o))
    rw [nI_ltI (by omega) (by omega)] at c
    obtain ⟨n, rfl⟩ : ∃ m, n = m + 1 := ⟨n - 1, by omega⟩
    simp only [nI_add]
    have k : ∀ y : Int32, wp (M_again_38 k10 y1 fu y (nI (r + 1)) t) (fun v => offM t0 v.2) := fun y => V_ag38 P o hk n (r + 1) fu y (by omega) (by omega)
    exact wi (fun _ => k _) (fun _ => wm rfl (by omega) (by decide) (wm rfl (by omega) (by decide) (wi (fun _ => wm rfl (by omega) (by decide) (wm rfl (by omega) (by decide) (wi (fun _ => k _) (fun _ => k _)))) (fun _ => k _))))
theorem V_ag10 {t0 : sg} {h0 : Nat} (P0 : PG t0 0 R h0) : ∀ (n r fu h : Nat) (t : sg), offM t0 t → PG t 208 R h → h + n < 2 ^ 29 → r + n = 57 → n < fu → wp (M_again_10 fu (nI r) t) (fun v => offM t0 v.2)
  | n, r, 0, h, t, o, P, hh, hr, hf => absurd hf (by omega)
  | n, r, fu + 1, h, t, o, P, hh, hr, hf => by
    have h6 := P.2.1
    rw [M_again_10]
    refine wi (fun _ => ws o) (fun c => ?_)
    rw [nI_ltI (by decide) (by omega)] at c
    obtain ⟨n, rfl⟩ : ∃ m, n = m + 1 := ⟨n - 1, by omega⟩
    refine wb (V_goesOn P (by omega)) (fun t1 g1 => ?_)
    have o1 := o.tr (g1.2.m (by decide))
    have k : wp (M_again_10 fu (nI r + nI 1) t1) (fun v => offM t0 v.2) := by
      rw [nI_add]
      exact V_ag10 P0 n (r + 1) fu (h + 1) t1 o1 g1.1 (by omega) (by omega) (by omega)
    exact wi (fun _ => V_ag38 (P0.m o1 (by decide)) o1 k R 0 FU _ (by omega) (by show R < 100000; omega)) (fun _ => V_ag38 (P0.m o1 (by decide)) o1 k R 0 FU _ (by omega) (by show R < 100000; omega))
theorem V_M_again (P : PG t 0 R h) (hh : h ≤ 999) : wp (M_again t) (fun v => offM t v.2) := by
  unfold M_again
  exact wb (V_copies (b := 208) P (by decide) (by decide) (by decide)) (fun t1 g1 => V_ag10 P 56 1 FU h t1 g1.2 g1.1 (by omega) (by omega) (by decide))
theorem V_kw11 {j N : Nat} {t0 : sg} (hj : j < 6) (hN : N < 1000) : ∀ (n r fu h : Nat) (t : sg), offM t0 t → PG t 208 R h → h + n < 2 ^ 29 → r + n = N → n < fu → wp (M_keepsWarm_11 (nI j) (nI N) x4 fu (nI r) t) (fun v => offM t0 v.2)
  | n, r, 0, h, t, o, P, hh, hr, hf => absurd hf (by omega)
  | n, r, fu + 1, h, t, o, P, hh, hr, hf => by
    rw [M_keepsWarm_11]
    simp only [nI_add]
    refine wi (fun c => ?_) (fun _ => ws o)
    rw [nI_ltI (by omega) (by omega)] at c
    obtain ⟨n, rfl⟩ : ∃ m, n = m + 1 := ⟨n - 1, by omega⟩
    refine wb (V_goesOn P (by omega)) (fun t1 g1 => ?_)
    have o1 := o.tr (g1.2.m (by decide))
    exact wm rfl (by omega) (by decide) (wi (fun _ => ws o1) (fun _ => V_kw11 hj hN n (r + 1) fu (h + 1) t1 o1 g1.1 (by omega) (by omega) (by omega)))
end MQ
