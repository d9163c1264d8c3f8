/-! the reference's questions, further -/
def offS (t t' : sg) : Prop := ∀ p k, ¬ (p = 11 ∧ 208 ≤ k ∧ k < 260) → p ≠ 16 → ¬ (p = 10 ∧ (k = 19 ∨ k = 20)) → t' p k = t p k
theorem offS.rf {t : sg} : offS t t := fun _ _ _ _ _ => rfl
theorem offS.tr {t t' t'' : sg} (h1 : offS t t') (h2 : offS t' t'') : offS t t'' := fun p k a b d => (h2 p k a b d).trans (h1 p k a b d)
theorem offP.s {t t' : sg} (o : offP 208 t t') : offS t t' := fun p k a b _ => o p k (fun w => a ⟨w.1, by omega, by omega⟩) b
theorem offS.u10 {t : sg} {k : Nat} {v : Int32} (hk : k = 19 ∨ k = 20) : offS t (up t 10 k v) := fun p j _ _ d => if_neg (fun w => d ⟨w.1, by omega⟩)
theorem offS.m {t t' : sg} (o : offS t t') : offM t t' := fun p k a b _ d => o p k (fun w => a ⟨w.1, by omega⟩) b d
theorem PG.s {t t' : sg} {g R h : Nat} (P : PG t g R h) (o : offS t t') (hg : g + 52 ≤ 208 ∨ 260 ≤ g) : PG t' g R h := ⟨(o 10 1 (by omega) (by decide) (by omega)).trans P.1, P.2.1, P.2.2.1, (o 11 _ (by omega) (by decide) (by omega)).trans P.2.2.2⟩
theorem PG.at {t : sg} {g R h k : Nat} {v : Int32} (P : PG t g R h) (hk : k ≠ g + 49) : PG (up t 11 k v) g R h := ⟨(up_p (by decide)).trans P.1, P.2.1, P.2.2.1, (up_k (by omega)).trans P.2.2.2⟩
section MR
variable {t : sg} {g R h : Nat} {x x1 x2 x3 x4 x5 : Int32}
theorem V_copS {a : Nat} (P : PG t a R h) (hd : a + 52 ≤ 208 ∨ 260 ≤ a) : wp (M_copies (nI a) (nI 208) t) (fun t' => PG t' 208 R h ∧ offS t t') := ⟨_, copies_eq P.2.2.1 (by decide) (by omega), cpM_pg P (by decide), fun p k w1 _ _ => if_neg (fun w => w1 ⟨w.1, by omega, by omega⟩)⟩
theorem V_hgS {N : Nat} {t0 : sg} {h0 : Nat} (hN : N < 1000) (P0 : PG t0 0 R h0) : ∀ (n r fu h : Nat) (t : sg), offS t0 t → PG t 208 R h → h + n < 2 ^ 29 → r + n = N → n < fu → wp (M_hoursGo_27 (nI N) fu (nI r) t) (fun v => offS t0 v.2)
  | n, r, 0, h, t, o, P, hh, hr, hf => absurd hf (by omega)
  | n, r, fu + 1, h, t, o, P, hh, hr, hf => by
    rw [M_hoursGo_27]
    refine wi (fun c => ?_) (fun _ => wm rfl (by decide) (by decide) (wm rfl (by decide) (by decide) (ws o)))
    rw [nI_ltI (by omega) (by omega)] at c
    obtain ⟨n, rfl⟩ : ∃ m, n = m + 1 := ⟨n - 1, by omega⟩
    refine wb (V_goesOn P (by omega)) (fun t1 g1 => ?_)
    have o1 : offS t0 t1 := o.tr g1.2.s
    refine wb (V_coldestOn (P0.s o1 (by decide)) (by decide)) (fun v2 _ => ?_)
    have w : ∀ y0 : Int32, wp (M_hoursGo_67 (M_hoursGo_27 (nI N) fu) (nI N) (nI r) v2 y0 t1) (fun v => offS t0 v.2) := fun y0 => by
      unfold M_hoursGo_67 M_hoursGo_89
      have k : ∀ y1 : Int32, wp (M_hoursGo_27 (nI N) fu (nI r + nI 1) (up (up t1 10 19 y0) 10 20 y1)) (fun v => offS t0 v.2) := fun y1 => by
        rw [nI_add]
        exact V_hgS hN P0 n (r + 1) fu (h + 1) _ ((o1.tr (offS.u10 (by omega))).tr (offS.u10 (by omega))) ((g1.1.u10 (by omega)).u10 (by omega)) (by omega) (by omega) (by omega)
      exact wsb (wi (fun _ => wsb (k _)) (fun _ => wsb (k _)))
    exact wi (fun _ => w _) (fun _ => w _)
theorem V_hours {a N h0 : Nat} (hN : N < 1000) (P0 : PG t 0 R h0) (P : PG t a R h) (hh : h < 2 ^ 28) (hd : a + 52 ≤ 208 ∨ 260 ≤ a) : wp (M_hoursGo (nI a) (nI N) t) (fun v => offS t v.2) := by
  unfold M_hoursGo
  refine wb (V_copS P hd) (fun t1 g1 => ?_)
  refine wb (V_coldestOn (P0.s g1.2 (by decide)) (by decide)) (fun v2 _ => wsb (wsb ?_))
  exact V_hgS hN P0 N 0 FU h _ ((g1.2.tr (offS.u10 (by omega))).tr (offS.u10 (by omega))) ((g1.1.u10 (by omega)).u10 (by omega)) (by omega) (by omega) (by show N < 100000; omega)
theorem V_kwS {j N : Nat} {t0 : sg} (hj : j < 6) (hN : N < 1000) : ∀ (n r fu h : Nat) (t : sg), offS t0 t → PG t 208 R h → h + n < 2 ^ 29 → r + n = N → n < fu → wp (M_keepsWarm_11 (nI j) (nI N) x4 fu (nI r) t) (fun v => offS t0 v.2)
  | n, r, 0, h, t, o, P, hh, hr, hf => absurd hf (by omega)
  | n, r, fu + 1, h, t, o, P, hh, hr, hf => by
    rw [M_keepsWarm_11]
    simp only [nI_add]
    refine wi (fun c => ?_) (fun _ => ws o)
    rw [nI_ltI (by omega) (by omega)] at c
    obtain ⟨n, rfl⟩ : ∃ m, n = m + 1 := ⟨n - 1, by omega⟩
    refine wb (V_goesOn P (by omega)) (fun t1 g1 => ?_)
    have o1 := o.tr g1.2.s
    exact wm rfl (by omega) (by decide) (wi (fun _ => ws o1) (fun _ => V_kwS hj hN n (r + 1) fu (h + 1) t1 o1 g1.1 (by omega) (by omega) (by omega)))
theorem V_need56 {j N : Nat} {t0 : sg} (hj : j < 6) (hN : N < 1000) (hh : h ≤ 999) : ∀ (n r fu : Nat) (t : sg), offM t0 t → PG t 260 R h → r + n = 100 → n < fu → wp (M_need_56 (nI j) (nI N) x3 fu (nI r) t) (fun v => offM t0 v.2)
  | n, r, 0, t, o, P, hr, hf => absurd hf (by omega)
  | n, r, fu + 1, t, o, P, hr, hf => by
    rw [M_need_56]
    refine wi (fun _ => ws o) (fun c => ?_)
    rw [nI_ltI (by decide) (by omega)] at c
    obtain ⟨n, rfl⟩ : ∃ m, n = m + 1 := ⟨n - 1, by omega⟩
    simp only [nI_add]
    refine wm rfl (by omega) (by decide) (wsb ?_)
    have P1 : PG (up t 11 (284 + j) (nI r)) 260 R h := P.at (by omega)
    have o1 : offM t0 (up t 11 (284 + j) (nI r)) := o.tr (offM.u11 (by omega))
    refine wb (P := fun v => offS (up t 11 (284 + j) (nI r)) v.2) ?_ (fun v hv => wi (fun _ => V_need56 hj hN hh n (r + 1) fu v.2 (o1.tr hv.m) (P1.s hv (by decide)) (by omega) (by omega)) (fun _ => ws (o1.tr hv.m)))
    unfold M_keepsWarm
    exact wb (V_copS P1 (by decide)) (fun t2 g2 => V_kwS hj hN N 0 FU h t2 g2.2 g2.1 (by omega) (by omega) (by show N < 100000; omega))
theorem V_M_need (P : PG t 0 R h) (hh : h ≤ 999) : wp (M_need x1 x2 x3 t) (fun v => offM t v.2) := by
  have h6 := P.2.1
  unfold M_need
  refine wbB (V_isRoom P) (ws offM.rf) (fun q0 => wbB (V_inN (a := 1) (c := 60) rfl rfl (by decide) (by decide)) (ws offM.rf) (fun q => wbB (V_inN (a := 0) (c := 99) rfl rfl (by decide) (by decide)) (ws offM.rf) (fun _ => ?_)))
  obtain ⟨j, hj, rfl⟩ := q0
  obtain ⟨N, -, hN, rfl⟩ := q
  exact wbB (V_hasTongue (by omega)) (ws offM.rf) (fun _ => wb (V_copies (b := 260) P (by decide) (by decide) (by decide)) (fun t1 g1 => V_need56 (by omega) (by omega) hh 100 0 FU t1 g1.2 g1.1 (by omega) (by decide)))
theorem V_kind61 {j N : Nat} {t0 : sg} {h0 : Nat} (P0 : PG t0 0 R h0) (hj : j < 6) (hN : N < 1000) (hh : h ≤ 999) : ∀ (n r fu : Nat) (t : sg) (x4 x5 : Int32), offM t0 t → PG t 260 R h → r + n = 4 → n < fu → wp (M_kind_61 (nI j) (nI N) x3 fu x4 x5 (nI r) t) (fun v => offM t0 v.2)
  | n, r, 0, t, x4, x5, o, P, hr, hf => absurd hf (by omega)
  | n, r, fu + 1, t, x4, x5, o, P, hr, hf => by
    rw [M_kind_61]
    refine wi (fun c => ?_) (fun _ => wi (fun _ => ws o) (fun _ => ws o))
    rw [nI_ltI (by omega) (by decide)] at c
    obtain ⟨n, rfl⟩ : ∃ m, n = m + 1 := ⟨n - 1, by omega⟩
    simp only [nI_add]
    refine wm rfl (by omega) (by decide) (wsb ?_)
    have P1 : PG (up t 11 (278 + j) (nI (r + 1))) 260 R h := P.at (by omega)
    have o1 : offM t0 (up t 11 (278 + j) (nI (r + 1))) := o.tr (offM.u11 (by omega))
    refine wb (V_hours hN (P0.m o1 (by decide)) P1 (by omega) (by decide)) (fun v hv => ?_)
    have k : ∀ y0 y1 : Int32, wp (M_kind_61 (nI j) (nI N) x3 fu y0 y1 (nI r + nI 1) v.2) (fun v => offM t0 v.2) := fun y0 y1 => by
      rw [nI_add]; exact V_kind61 P0 hj hN hh n (r + 1) fu v.2 y0 y1 (o1.tr hv.m) (P1.s hv (by decide)) (by omega) (by omega)
    unfold M_kind_105
    exact wi (fun _ => wi (fun _ => k _ _) (fun _ => k _ _)) (fun _ => wi (fun _ => k _ _) (fun _ => k _ _))
theorem V_M_kind (P : PG t 0 R h) (hh : h ≤ 999) : wp (M_kind x1 x2 x3 t) (fun v => offM t v.2) := by
  have h6 := P.2.1
  unfold M_kind
  refine wbB (V_isRoom P) (ws offM.rf) (fun q0 => wbB (V_inN (a := 0) (c := 60) rfl rfl (by decide) (by decide)) (ws offM.rf) (fun q => wbB (V_inN (a := 0) (c := 1) rfl rfl (by decide) (by decide)) (ws offM.rf) (fun _ => ?_)))
  obtain ⟨j, hj, rfl⟩ := q0
  obtain ⟨N, -, hN, rfl⟩ := q
  exact wbB (V_hasTongue (by omega)) (ws offM.rf) (fun _ => wb (V_copies (b := 260) P (by decide) (by decide) (by decide)) (fun t1 g1 => V_kind61 P (by omega) (by omega) hh 4 0 FU t1 _ _ g1.2 g1.1 (by omega) (by decide)))
theorem V_sw53 {N a h0 : Nat} {t0 : sg} {k38 : Int32 → Int32 → Int32 → sg → Option (Int32 × sg)} (P0 : PG t0 0 R h0) (hh : h0 ≤ 999) (hN : N < 1000) (ha : a < R) (hk : ∀ y3 y4 t, offM t0 t → wp (k38 y3 y4 (nI a + nI 1) t) (fun v => offM t0 v.2)) : ∀ (n r fu : Nat) (t : sg) (x3 x4 : Int32), offM t0 t → r + n = R → n < fu → wp (M_swap_53 k38 (nI N) x2 (nI a) fu x3 x4 (nI r) t) (fun v => offM t0 v.2)
  | n, r, 0, t, x3, x4, o, hr, hf => absurd hf (by omega)
  | n, r, fu + 1, t, x3, x4, o, hr, hf => by
    have Pt := P0.m o (by decide)
    have h6 := Pt.2.1
    rw [M_swap_53, Pt.1]
    refine wi (fun c => ?_) (fun _ => hk _ _ _ o)
    rw [nI_ltI (by omega) (by omega)] at c
    obtain ⟨n, rfl⟩ : ∃ m, n = m + 1 := ⟨n - 1, by omega⟩
    have k : ∀ (y3 y4 : Int32) (t' : sg), offM t0 t' → wp (M_swap_53 k38 (nI N) x2 (nI a) fu y3 y4 (nI r + nI 1) t') (fun v => offM t0 v.2) := fun y3 y4 t' o' => by
      rw [nI_add]; exact V_sw53 P0 hh hN ha hk n (r + 1) fu t' y3 y4 o' (by omega) (by omega)
    refine wb (V_copies (b := 260) Pt (by decide) (by decide) (by decide)) (fun t1 g1 => ?_)
    have w221 : ∀ (y0 : Int32) (t' : sg), offM t0 t' → PG t' 260 R h0 → wp (M_swap_221 k38 (M_swap_53 k38 (nI N) x2 (nI a) fu) (nI N) x2 x3 x4 (nI a) (nI r) y0 (nI 290 + nI r) t') (fun v => offM t0 v.2) := fun y0 t' o' P' => by
      unfold M_swap_221 M_swap_251
      rw [nI_add]
      refine wm rfl (by omega) (by decide) (wsb ?_)
      have o2 : offM t0 (up t' 11 (290 + r) y0) := o'.tr (offM.u11 (by omega))
      refine wb (V_hours hN (P0.m o2 (by decide)) (P'.at (by omega)) (by omega) (by decide)) (fun v hv => ?_)
      exact wi (fun _ => wi (fun _ => k _ _ _ (o2.tr hv.m)) (fun _ => k _ _ _ (o2.tr hv.m))) (fun _ => wi (fun _ => k _ _ _ (o2.tr hv.m)) (fun _ => k _ _ _ (o2.tr hv.m)))
    have w187 : ∀ (y0 : Int32) (t' : sg), offM t0 t' → PG t' 260 R h0 → wp (M_swap_187 k38 (M_swap_53 k38 (nI N) x2 (nI a) fu) (nI N) x2 x3 x4 (nI a) (nI r) y0 (nI 290 + nI a) t') (fun v => offM t0 v.2) := fun y0 t' o' P' => by
      unfold M_swap_187
      rw [nI_add 290 a]
      refine wm rfl (by omega) (by decide) (wsb ?_)
      have o2 : offM t0 (up t' 11 (290 + a) y0) := o'.tr (offM.u11 (by omega))
      refine wbB (V_hasTongue (by omega)) (w221 _ _ o2 (P'.at (by omega))) (fun _ => ?_)
      exact wm (nI_add 30 r) (by omega) (by decide) (w221 _ _ o2 (P'.at (by omega)))
    have o1 := o.tr g1.2
    refine wm (nI_add 18 r) (by omega) (by decide) (wm (nI_add 278 a) (by omega) (by decide) (wsb (wm (nI_add 18 a) (by omega) (by decide) (wm (nI_add 278 r) (by omega) (by decide) (wsb (wm (nI_add 24 r) (by omega) (by decide) (wm (nI_add 284 a) (by omega) (by decide) (wsb (wm (nI_add 24 a) (by omega) (by decide) (wm (nI_add 284 r) (by omega) (by decide) (wsb ?_)))))))))))
    have o5 : ∀ v1 v2 v3 v4 : Int32, offM t0 (up (up (up (up t1 11 (278 + a) v1) 11 (278 + r) v2) 11 (284 + a) v3) 11 (284 + r) v4) := fun v1 v2 v3 v4 => (((o1.tr (offM.u11 (by omega))).tr (offM.u11 (by omega))).tr (offM.u11 (by omega))).tr (offM.u11 (by omega))
    have P5 : ∀ v1 v2 v3 v4 : Int32, PG (up (up (up (up t1 11 (278 + a) v1) 11 (278 + r) v2) 11 (284 + a) v3) 11 (284 + r) v4) 260 R h0 := fun v1 v2 v3 v4 => (((g1.1.at (by omega)).at (by omega)).at (by omega)).at (by omega)
    exact wbB (V_hasTongue (by omega)) (w187 _ _ (o5 _ _ _ _) (P5 _ _ _ _)) (fun _ => wm (nI_add 30 a) (by omega) (by decide) (w187 _ _ (o5 _ _ _ _) (P5 _ _ _ _)))
theorem V_sw38 {N h0 : Nat} {t0 : sg} (P0 : PG t0 0 R h0) (hh : h0 ≤ 999) (hN : N < 1000) : ∀ (n r fu : Nat) (t : sg) (x3 x4 : Int32), offM t0 t → r + n = R → n < fu → wp (M_swap_38 (nI N) x2 fu x3 x4 (nI r) t) (fun v => offM t0 v.2)
  | n, r, 0, t, x3, x4, o, hr, hf => absurd hf (by omega)
  | n, r, fu + 1, t, x3, x4, o, hr, hf => by
    have Pt := P0.m o (by decide)
    have h6 := Pt.2.1
    rw [M_swap_38, Pt.1]
    refine wi (fun c => ?_) (fun _ => wi (fun _ => ws o) (fun _ => wi (fun _ => ws o) (fun _ => ws o)))
    rw [nI_ltI (by omega) (by omega)] at c
    obtain ⟨n, rfl⟩ : ∃ m, n = m + 1 := ⟨n - 1, by omega⟩
    rw [nI_add]
    refine V_sw53 P0 hh hN c (fun y3 y4 t' o' => ?_) (R - (r + 1)) (r + 1) FU t x3 x4 o (by omega) (by show R - (r + 1) < 100000; omega)
    rw [nI_add]
    exact V_sw38 P0 hh hN n (r + 1) fu t' y3 y4 o' (by omega) (by omega)
theorem V_M_swap (P : PG t 0 R h) (hh : h ≤ 999) : wp (M_swap x1 x2 t) (fun v => offM t v.2) := by
  unfold M_swap
  refine wbB (V_inN (a := 0) (c := 60) rfl rfl (by decide) (by decide)) (ws offM.rf) (fun q => wbB (V_inN (a := 0) (c := 1) rfl rfl (by decide) (by decide)) (ws offM.rf) (fun _ => ?_))
  obtain ⟨N, -, hN, rfl⟩ := q
  exact wb (V_hours (by omega) P P (by omega) (by decide)) (fun v o => V_sw38 P hh (by omega) R 0 FU v.2 _ _ o.m (by omega) (by have := P.2.1; show R < 100000; omega))
theorem V_se38 {N h0 : Nat} {t0 : sg} (P0 : PG t0 0 R h0) (hh : h0 ≤ 999) (hN : N < 1000) : ∀ (n r fu : Nat) (t : sg) (x3 x4 : Int32), offM t0 t → r + n = R → n < fu → wp (M_seal_38 (nI N) x2 fu x3 x4 (nI r) t) (fun v => offM t0 v.2)
  | n, r, 0, t, x3, x4, o, hr, hf => absurd hf (by omega)
  | n, r, fu + 1, t, x3, x4, o, hr, hf => by
    have Pt := P0.m o (by decide)
    have h6 := Pt.2.1
    rw [M_seal_38, Pt.1]
    refine wi (fun c => ?_) (fun _ => wi (fun _ => ws o) (fun _ => wi (fun _ => ws o) (fun _ => ws o)))
    rw [nI_m1 (by omega) (by omega)] at c
    obtain ⟨n, rfl⟩ : ∃ m, n = m + 1 := ⟨n - 1, by omega⟩
    refine wb (V_copies (b := 260) Pt (by decide) (by decide) (by decide)) (fun t1 g1 => wm (nI_add 296 r) (by omega) (by decide) (wsb ?_))
    have o1 : offM t0 (up t1 11 (296 + r) (-2)) := (o.tr g1.2).tr (offM.u11 (by omega))
    refine wb (V_hours hN (P0.m o1 (by decide)) (g1.1.at (by omega)) (by omega) (by decide)) (fun v hv => ?_)
    have k : ∀ y3 y4 : Int32, wp (M_seal_38 (nI N) x2 fu y3 y4 (nI r + nI 1) v.2) (fun v => offM t0 v.2) := fun y3 y4 => by
      rw [nI_add]; exact V_se38 P0 hh hN n (r + 1) fu v.2 y3 y4 (o1.tr hv.m) (by omega) (by omega)
    unfold M_seal_93
    exact wi (fun _ => wi (fun _ => k _ _) (fun _ => k _ _)) (fun _ => wi (fun _ => k _ _) (fun _ => k _ _))
theorem V_M_seal (P : PG t 0 R h) (hh : h ≤ 999) : wp (M_seal x1 x2 t) (fun v => offM t v.2) := by
  unfold M_seal
  refine wbB (V_inN (a := 0) (c := 60) rfl rfl (by decide) (by decide)) (ws offM.rf) (fun q => wbB (V_inN (a := 0) (c := 1) rfl rfl (by decide) (by decide)) (ws offM.rf) (fun _ => ?_))
  obtain ⟨N, -, hN, rfl⟩ := q
  exact wb (V_hours (by omega) P P (by omega) (by decide)) (fun v o => V_se38 P hh (by omega) R 0 FU v.2 _ _ o.m (by omega) (by have := P.2.1; show R < 100000; omega))
theorem V_strips {a j : Nat} (ha : a + 52 ≤ 312) (hj : j < 6) : wp (M_stripsOn (nI a) (nI j) t) (fun t' => ∃ v1 v2 v3 : Int32, t' = up (up (up t 11 (a + 18 + j) v1) 11 (a + 24 + j) v2) 11 (a + 30 + j) v3) := by
  unfold M_stripsOn
  simp only [nI_add]
  exact wm rfl (by omega) (by decide) (wsb (wm rfl (by omega) (by decide) (wsb (wm rfl (by omega) (by decide) (wsb (ws ⟨_, _, _, rfl⟩))))))
theorem V_sp47 {N h0 : Nat} {t0 : sg} (P0 : PG t0 0 R h0) (hh : h0 ≤ 999) (hN : N < 1000) : ∀ (n r fu : Nat) (t : sg) (x4 x5 : Int32), offM t0 t → r + n = R → n < fu → wp (M_spare_47 (nI N) x2 x3 fu x4 x5 (nI r) t) (fun v => offM t0 v.2)
  | n, r, 0, t, x4, x5, o, hr, hf => absurd hf (by omega)
  | n, r, fu + 1, t, x4, x5, o, hr, hf => by
    have Pt := P0.m o (by decide)
    have h6 := Pt.2.1
    rw [M_spare_47, Pt.1]
    refine wi (fun c => ?_) (fun _ => wi (fun _ => ws o) (fun _ => wi (fun _ => ws o) (fun _ => ws o)))
    rw [nI_ltI (by omega) (by omega)] at c
    obtain ⟨n, rfl⟩ : ∃ m, n = m + 1 := ⟨n - 1, by omega⟩
    have k : ∀ (y3 y4 : Int32) (t' : sg), offM t0 t' → wp (M_spare_47 (nI N) x2 x3 fu y3 y4 (nI r + nI 1) t') (fun v => offM t0 v.2) := fun y3 y4 t' o' => by
      rw [nI_add]; exact V_sp47 P0 hh hN n (r + 1) fu t' y3 y4 o' (by omega) (by omega)
    refine wbB (V_hasTongue (by omega)) (k _ _ _ o) (fun _ => ?_)
    refine wb (V_copies (b := 260) Pt (by decide) (by decide) (by decide)) (fun t1 g1 => wb (V_strips (by decide) (by omega)) (fun t2 g2 => ?_))
    obtain ⟨v1, v2, v3, rfl⟩ := g2
    have o2 : offM t0 (up (up (up t1 11 (260 + 18 + r) v1) 11 (260 + 24 + r) v2) 11 (260 + 30 + r) v3) := (((o.tr g1.2).tr (offM.u11 (by omega))).tr (offM.u11 (by omega))).tr (offM.u11 (by omega))
    refine wb (V_hours hN (P0.m o2 (by decide)) (((g1.1.at (by omega)).at (by omega)).at (by omega)) (by omega) (by decide)) (fun v hv => ?_)
    have w : ∀ y0 : Int32, wp (M_spare_112 (M_spare_47 (nI N) x2 x3 fu) (nI N) x2 x3 x4 x5 (nI r) v.1 y0 v.2) (fun v => offM t0 v.2) := fun y0 => by
      unfold M_spare_112 M_spare_126
      exact wi (fun _ => wi (fun _ => k _ _ _ (o2.tr hv.m)) (fun _ => k _ _ _ (o2.tr hv.m))) (fun _ => wi (fun _ => k _ _ _ (o2.tr hv.m)) (fun _ => k _ _ _ (o2.tr hv.m)))
    unfold M_spare_111
    exact wi (fun _ => w _) (fun _ => wi (fun _ => w _) (fun _ => w _))
theorem V_M_spare (P : PG t 0 R h) (hh : h ≤ 999) : wp (M_spare x1 x2 x3 t) (fun v => offM t v.2) := by
  unfold M_spare
  refine wbB (V_inN (a := 0) (c := 60) rfl rfl (by decide) (by decide)) (ws offM.rf) (fun q => wbB (V_inN (a := 0) (c := 99) rfl rfl (by decide) (by decide)) (ws offM.rf) (fun _ => wbB (V_inN (a := 0) (c := 1) rfl rfl (by decide) (by decide)) (ws offM.rf) (fun _ => ?_)))
  obtain ⟨N, -, hN, rfl⟩ := q
  exact V_sp47 P hh (by omega) R 0 FU t _ _ offM.rf (by omega) (by have := P.2.1; show R < 100000; omega)
theorem V_dr48 {N h0 : Nat} {t0 : sg} (P0 : PG t0 0 R h0) (hN : N < 1000) : ∀ (n r fu h : Nat) (t : sg) (x4 : Int32), offM t0 t → PG t 208 R h → r + n = N → n < fu → wp (M_drift_48 (nI N) x3 fu x4 (nI r) t) (fun v => offM t0 v.2)
  | n, r, 0, h, t, x4, o, P, hr, hf => absurd hf (by omega)
  | n, r, fu + 1, h, t, x4, o, P, hr, hf => by
    rw [M_drift_48]
    refine wi (fun c => ?_) (fun _ => wi (fun _ => wm rfl (by decide) (by decide) (wm rfl (by decide) (by decide) (ws o))) (fun _ => wb (V_warmthOn (P0.m o (by decide)) (by decide)) (fun _ _ => ws o)))
    rw [nI_ltI (by omega) (by omega)] at c
    obtain ⟨n, rfl⟩ : ∃ m, n = m + 1 := ⟨n - 1, by omega⟩
    refine wb (V_hourOn P) (fun t1 g1 => ?_)
    rw [nI_add r 1]
    exact V_dr48 P0 hN n (r + 1) fu (h + 1) t1 _ (o.tr (g1.2.m (by decide))) g1.1 (by omega) (by omega)
theorem V_M_drift (P : PG t 0 R h) : wp (M_drift x1 x2 x3 t) (fun v => offM t v.2) := by
  unfold M_drift
  refine wbB (V_inN (a := 1) (c := 60) rfl rfl (by decide) (by decide)) (ws offM.rf) (fun q => wbB (V_inN (a := 0) (c := 1) rfl rfl (by decide) (by decide)) (ws offM.rf) (fun _ => wi (fun _ => ws offM.rf) (fun _ => ?_)))
  obtain ⟨N, -, hN, rfl⟩ := q
  exact wb (V_copies (b := 208) P (by decide) (by decide) (by decide)) (fun t1 g1 => V_dr48 P (by omega) N 0 FU h t1 _ g1.2 g1.1 (by omega) (by show N < 100000; omega))
end MR
