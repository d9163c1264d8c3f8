section Q50
/-! the reference: hours on a page -/
def PG (t : sg) (g R h : Nat) : Prop := t 10 1 = nI R ∧ R ≤ 6 ∧ g + 52 ≤ 312 ∧ t 11 (g + 49) = nI h
def offP (g : Nat) (t t' : sg) : Prop := ∀ p k, ¬ (p = 11 ∧ g ≤ k ∧ k < g + 52) → p ≠ 16 → t' p k = t p k
theorem offP.rf {g : Nat} {t : sg} : offP g t t := fun _ _ _ _ => rfl
theorem offP.tr {g : Nat} {t t' t'' : sg} (h1 : offP g t t') (h2 : offP g t' t'') : offP g t t'' := fun p k a b => (h2 p k a b).trans (h1 p k a b)
/-- besides, the hour is as it was -/
def offQ (g : Nat) (t t' : sg) : Prop := offP g t t' ∧ t' 11 (g + 49) = t 11 (g + 49)
theorem offQ.rf {g : Nat} {t : sg} : offQ g t t := ⟨offP.rf, rfl⟩
theorem offQ.tr {g : Nat} {t t' t'' : sg} (h1 : offQ g t t') (h2 : offQ g t' t'') : offQ g t t'' := ⟨h1.1.tr h2.1, h2.2.trans h1.2⟩
theorem offQ.u11 {g k : Nat} {t : sg} {v : Int32} (h : g ≤ k ∧ k < g + 52 ∧ k ≠ g + 49) : offQ g t (up t 11 k v) :=
  ⟨fun p j a b => if_neg (fun w => a ⟨w.1, by omega, by omega⟩), if_neg (fun w => by omega)⟩
theorem offQ.u16 {g k : Nat} {t : sg} {v : Int32} : offQ g t (up t 16 k v) :=
  ⟨fun p j a b => if_neg (fun w => b w.1), if_neg (fun w => absurd w.1 (by decide))⟩
theorem PG.q {t t' : sg} {g R h : Nat} (P : PG t g R h) (o : offQ g t t') : PG t' g R h := ⟨(o.1 10 1 (by omega) (by decide)).trans P.1, P.2.1, P.2.2.1, o.2.trans P.2.2.2⟩
section PAGE
variable {t : sg} {g R h : Nat} {x x1 x2 x3 : Int32}
theorem V_lowOn {r : Nat} (P : PG t g R h) (hr : r < 6) : wp (M_lowOn (nI g) (nI r) t) (fun _ => True) := by
  have := P.2.2.1
  unfold M_lowOn
  simp only [nI_add]
  exact wm rfl (by omega) (by decide) (wm rfl (by omega) (by decide) (wi (fun _ => ws trivial) (fun _ => wi (fun _ => ws trivial) (fun _ => ws trivial))))
theorem V_highOn {r : Nat} (P : PG t g R h) (hr : r < 6) : wp (M_highOn (nI g) (nI r) t) (fun _ => True) := by
  have := P.2.2.1
  unfold M_highOn
  simp only [nI_add]
  exact wm rfl (by omega) (by decide) (wm rfl (by omega) (by decide) (wi (fun _ => ws trivial) (fun _ => wi (fun _ => ws trivial) (fun _ => ws trivial))))
theorem V_ton2 : ∀ (n r fu : Nat) (t : sg), PG t g R h → r + n = R → n < fu → wp (M_tonguesOn_2 (nI g) fu (nI r) t) (offQ g t)
  | n, r, 0, t, P, hr, hf => absurd hf (by omega)
  | n, r, fu + 1, t, P, hr, hf => by
    have h6 := P.2.1
    have hg := P.2.2.1
    rw [M_tonguesOn_2, P.1]
    simp only [nI_add]
    refine wi (fun c => ?_) (fun _ => ws offQ.rf)
    rw [nI_ltI (by omega) (by omega)] at c
    obtain ⟨n, rfl⟩ : ∃ m, n = m + 1 := ⟨n - 1, by omega⟩
    have k : ∀ t', offQ g t t' → wp (M_tonguesOn_2 (nI g) fu (nI (r + 1)) t') (offQ g t) := fun t' o => wc (V_ton2 n (r + 1) fu t' (P.q o) (by omega) (by omega)) (fun a ha => o.tr ha)
    have w132 : ∀ y4 y0 y1 : Int32, wp (M_tonguesOn_132 (M_tonguesOn_2 (nI g) fu) (nI g) (nI r) y4 y0 y1 (nI (g + 51)) t) (offQ g t) := fun y4 y0 y1 => by
      unfold M_tonguesOn_132
      simp only [nI_add]
      exact wm rfl (by omega) (by decide) (wsb (wm rfl (by omega) (by decide) (wsb (k _ ((offQ.u11 (by omega)).tr (offQ.u11 (by omega)))))))
    have w110 : ∀ y4 y0 : Int32, wp (M_tonguesOn_110 (M_tonguesOn_2 (nI g) fu) (nI g) (nI r) y4 y0 t) (offQ g t) := fun y4 y0 => by
      unfold M_tonguesOn_110
      simp only [nI_add]
      exact wm rfl (by omega) (by decide) (wi (fun _ => w132 _ _ _) (fun _ => w132 _ _ _))
    have w72 : ∀ y0 : Int32, wp (M_tonguesOn_72 (M_tonguesOn_2 (nI g) fu) (nI g) (nI r) y0 t) (offQ g t) := fun y0 => by
      unfold M_tonguesOn_72 M_tonguesOn_109
      simp only [nI_add]
      exact wm rfl (by omega) (by decide) (wi (fun _ => w110 _ _) (fun _ => wm rfl (by omega) (by decide) (wi (fun _ => w110 _ _) (fun _ => w110 _ _))))
    refine wm rfl (by omega) (by decide) (wi (fun _ => ?_) (fun _ => k _ offQ.rf))
    refine wm rfl (by omega) (by decide) (wb (V_lowOn P (by omega)) (fun v _ => wi (fun _ => wb (V_highOn P (by omega)) (fun v2 _ => ?_)) (fun _ => w72 _)))
    exact wi (fun _ => wm rfl (by omega) (by decide) (w72 _)) (fun _ => w72 _)
theorem V_tonguesOn (P : PG t g R h) : wp (M_tonguesOn (nI g) t) (offQ g t) := by
  unfold M_tonguesOn
  exact V_ton2 R 0 FU t P (by omega) (by have := P.2.1; show R < 100000; omega)
theorem V_h222 : ∀ (n r fu : Nat) (t : sg), PG t g R h → r + n = R → n < fu → wp (M_hourOn_222 (nI g) fu (nI r) t) (fun t' => PG t' g R (h + 1) ∧ offP g t t')
  | n, r, 0, t, P, hr, hf => absurd hf (by omega)
  | n, r, fu + 1, t, P, hr, hf => by
    have h6 := P.2.1
    have hg := P.2.2.1
    rw [M_hourOn_222, P.1]
    simp only [nI_add]
    refine wi (fun c => ?_) (fun _ => wm rfl (by omega) (by decide) (wm rfl (by omega) (by decide) (wsb (ws ⟨⟨?_, h6, hg, ?_⟩, fun p j a b => if_neg (fun w => a ⟨w.1, by omega, by omega⟩)⟩))))
    · rw [nI_ltI (by omega) (by omega)] at c
      obtain ⟨n, rfl⟩ : ∃ m, n = m + 1 := ⟨n - 1, by omega⟩
      have w : ∀ y0 : Int32, wp (M_hourOn_281 (M_hourOn_222 (nI g) fu) (nI g) (nI r) y0 (nI (g + r)) t) (fun t' => PG t' g R (h + 1) ∧ offP g t t') := fun y0 => by
        unfold M_hourOn_281
        simp only [nI_add]
        have o : offQ g t (up t 11 (g + r) y0) := offQ.u11 (by omega)
        exact wm rfl (by omega) (by decide) (wsb (wc (V_h222 n (r + 1) fu _ (P.q o) (by omega) (by omega)) (fun a ha => ⟨ha.1, o.1.tr ha.2⟩)))
      exact wm rfl (by omega) (by decide) (wm rfl (by omega) (by decide) (wi (fun _ => w _) (fun _ => wi (fun _ => w _) (fun _ => w _))))
    · rw [up_p (by decide)]; exact P.1
    · rw [up_eq, P.2.2.2, nI_add]
theorem V_h135 : ∀ (n r fu : Nat) (t : sg), PG t g R h → r + n = R → n < fu → wp (M_hourOn_135 (nI g) fu (nI r) t) (fun t' => PG t' g R (h + 1) ∧ offP g t t')
  | n, r, 0, t, P, hr, hf => absurd hf (by omega)
  | n, r, fu + 1, t, P, hr, hf => by
    have h6 := P.2.1
    have hg := P.2.2.1
    rw [M_hourOn_135, P.1]
    refine wi (fun c => ?_) (fun _ => V_h222 R 0 FU t P (by omega) (by show R < 100000; omega))
    rw [nI_m1 (by omega) (by omega)] at c
    obtain ⟨n, rfl⟩ : ∃ m, n = m + 1 := ⟨n - 1, by omega⟩
    simp only [nI_add]
    refine wm rfl (by omega) (by decide) (wm rfl (by omega) (by decide) (wm rfl (by omega) (by decide) (wm rfl (by omega) (by decide) (wm rfl (by omega) (by decide) (wsb (wm rfl (by omega) (by decide) (wm rfl (by omega) (by decide) (wsb ?_))))))))
    have o : ∀ v w : Int32, offQ g t (up (up t 16 r v) 16 (r + 1) w) := fun v w => offQ.u16.tr offQ.u16
    exact wc (V_h135 n (r + 1) fu _ (P.q (o _ _)) (by omega) (by omega)) (fun a ha => ⟨ha.1, (o _ _).1.tr ha.2⟩)
theorem V_h8 : ∀ (n r fu : Nat) (t : sg), PG t g R h → r + n = R → n < fu → wp (M_hourOn_8 (nI g) x2 x3 fu (nI r) t) (fun t' => PG t' g R (h + 1) ∧ offP g t t')
  | n, r, 0, t, P, hr, hf => absurd hf (by omega)
  | n, r, fu + 1, t, P, hr, hf => by
    have h6 := P.2.1
    have hg := P.2.2.1
    rw [M_hourOn_8, P.1]
    simp only [nI_add]
    refine wi (fun c => ?_) (fun _ => V_h135 R 0 FU t P (by omega) (by show R < 100000; omega))
    rw [nI_ltI (by omega) (by omega)] at c
    obtain ⟨n, rfl⟩ : ∃ m, n = m + 1 := ⟨n - 1, by omega⟩
    have k : ∀ t', offQ g t t' → wp (M_hourOn_8 (nI g) x2 x3 fu (nI (r + 1)) t') (fun t' => PG t' g R (h + 1) ∧ offP g t t') := fun t' o => wc (V_h8 n (r + 1) fu t' (P.q o) (by omega) (by omega)) (fun a ha => ⟨ha.1, o.1.tr ha.2⟩)
    have w : ∀ (y0 y1 : Int32) (t' : sg), offQ g t t' → wp (M_hourOn_124 (M_hourOn_8 (nI g) x2 x3 fu) (nI g) x2 x3 (nI r) y0 y1 (nI (g + 50)) t') (fun t' => PG t' g R (h + 1) ∧ offP g t t') := fun y0 y1 t' o => by
      unfold M_hourOn_124
      simp only [nI_add]
      exact wm rfl (by omega) (by decide) (wsb (k _ (o.tr (offQ.u11 (by omega)))))
    refine wm rfl (by omega) (by decide) (wm rfl (by omega) (by decide) (wm rfl (by omega) (by decide) (wsb (wm rfl (by omega) (by decide) (wi (fun _ => wi (fun _ => ?_) (fun _ => k _ offQ.u16)) (fun _ => k _ offQ.u16))))))
    refine wm rfl (by omega) (by decide) (wm rfl (by omega) (by decide) (wm rfl (by omega) (by decide) (wsb (wm rfl (by omega) (by decide) (wm rfl (by omega) (by decide) ?_)))))
    exact wi (fun _ => w _ _ _ (offQ.u16.tr offQ.u16)) (fun _ => w _ _ _ (offQ.u16.tr offQ.u16))
theorem V_hourOn (P : PG t g R h) : wp (M_hourOn (nI g) x2 x3 t) (fun t' => PG t' g R (h + 1) ∧ offP g t t') := by
  unfold M_hourOn
  exact wb (V_tonguesOn P) (fun t1 o => wc (V_h8 R 0 FU t1 (P.q o) (by omega) (by have := P.2.1; show R < 100000; omega)) (fun a ha => ⟨ha.1, o.1.tr ha.2⟩))
theorem V_outOn (P : PG t g R h) (hh : h < 2 ^ 30) : wp (M_outOn (nI g) t) (fun _ => True) := by
  have hg := P.2.2.1
  unfold M_outOn
  simp only [nI_add]
  refine wm rfl (by omega) (by decide) ?_
  rw [P.2.2.2, rem8 hh, nI_add]
  have := Nat.mod_lt h (show 0 < 8 by decide)
  exact wm rfl (by omega) (by decide) (ws trivial)
theorem V_goesOn (P : PG t g R h) (hh : h < 2 ^ 30) : wp (M_goesOn (nI g) t) (fun t' => PG t' g R (h + 1) ∧ offP g t t') := by
  unfold M_goesOn
  exact wb (V_outOn P hh) (fun v _ => wb (V_hourOn P) (fun t1 h1 => ws h1))
end PAGE
end Q50
section Q51
/-! the reference's questions -/
def offM (t t' : sg) : Prop := ∀ p k, ¬ (p = 11 ∧ 156 ≤ k) → p ≠ 16 → p ≠ 18 → ¬ (p = 10 ∧ (k = 19 ∨ k = 20)) → t' p k = t p k
theorem offM.rf {t : sg} : offM t t := fun _ _ _ _ _ _ => rfl
theorem offM.tr {t t' t'' : sg} (h1 : offM t t') (h2 : offM t' t'') : offM t t'' := fun p k a b c d => (h2 p k a b c d).trans (h1 p k a b c d)
theorem offP.m {g : Nat} {t t' : sg} (o : offP g t t') (hg : 156 ≤ g) : offM t t' := fun p k a b _ _ => o p k (fun w => a ⟨w.1, by omega⟩) b
theorem offM.u11 {t : sg} {k : Nat} {v : Int32} (hk : 156 ≤ k) : offM t (up t 11 k v) := fun p j a _ _ _ => if_neg (fun w => a ⟨w.1, by omega⟩)
theorem offM.u10 {t : sg} {k : Nat} {v : Int32} (hk : k = 19 ∨ k = 20) : offM t (up t 10 k v) := fun p j _ _ _ d => if_neg (fun w => d ⟨w.1, by omega⟩)
theorem offM.u18 {t : sg} {k : Nat} {v : Int32} : offM t (up t 18 k v) := fun p j _ _ c _ => if_neg (fun w => c w.1)
theorem PG.m {t t' : sg} {g R h : Nat} (P : PG t g R h) (o : offM t t') (hg : g + 49 < 156) : PG t' g R h := ⟨(o 10 1 (by omega) (by decide) (by decide) (by omega)).trans P.1, P.2.1, P.2.2.1, (o 11 _ (by omega) (by decide) (by decide) (by omega)).trans P.2.2.2⟩
theorem l64n {x : Int32} {n : Nat} (hn : n < 2 ^ 31) : (x.toInt64 < (nI n).toInt64) ↔ x < nI n := by
  rw [Int64.lt_iff_toInt_lt, Int32.lt_iff_toInt_lt, Int32.toInt_toInt64, Int32.toInt_toInt64]
theorem l64s (x y : Int32) : (x.toInt64 < y.toInt64) ↔ x < y := by
  rw [Int64.lt_iff_toInt_lt, Int32.lt_iff_toInt_lt, Int32.toInt_toInt64, Int32.toInt_toInt64]
section MQ
variable {t : sg} {g R h : Nat} {x x1 x2 x3 x4 x5 : Int32}
theorem V_in {lo hi : Int32} {l u : Int64} (hl : l = lo.toInt64) (hu : u = hi.toInt64) : wp (M_in x.toInt64 l u t) (yn (¬ x < lo ∧ ¬ hi < x)) := by
  subst hl; subst hu
  unfold M_in
  refine wi (fun _ => ws (Or.inl rfl)) (fun c => wi (fun _ => ws (Or.inl rfl)) (fun c2 => ws (Or.inr ⟨rfl, ?_⟩)))
  rw [l64s] at c c2
  exact ⟨c, c2⟩
theorem V_inN {a c : Nat} {l u : Int64} (hl : l = (nI a).toInt64) (hu : u = (nI c).toInt64) (ha : a < 2 ^ 31) (hc : c < 2 ^ 31) : wp (M_in x.toInt64 l u t) (yn (∃ j, a ≤ j ∧ j ≤ c ∧ x = nI j)) := by
  refine wc (V_in hl hu) (fun v hv => ?_)
  rcases hv with q | ⟨q, q2⟩
  · exact Or.inl q
  · exact Or.inr ⟨q, in_nI hc q2 ha⟩
theorem V_isRoom (P : PG t g R h) : wp (M_isRoom x1 t) (yn (∃ j, j < R ∧ x1 = nI j)) := by
  unfold M_isRoom
  have h6 := P.2.1
  rw [P.1]
  refine wb (V_in (lo := nI 0) (hi := nI R - nI 1) rfl rfl) (fun v hv => wi (fun _ => ws ?_) (fun q => absurd (hv.imp (fun e => e) (fun e => e.1)) q))
  rcases hv with q | ⟨q, q1, q2⟩
  · exact Or.inl q
  · refine Or.inr ⟨q, ?_⟩
    have h0 : ¬ x1 < 0 := q1
    obtain ⟨j, hj, rfl⟩ := nI_of h0
    refine ⟨j, ?_, rfl⟩
    rw [Int32.lt_iff_toInt_lt, pk_sub_toInt (by omega) (by decide), nI_toInt hj] at q2
    omega
theorem V_isWall (P : PG t g R h) : wp (M_isWall x1 t) (yn (∃ j, j + 1 < R ∧ x1 = nI j)) := by
  unfold M_isWall
  have h6 := P.2.1
  rw [P.1]
  refine wb (V_in (lo := nI 0) (hi := nI R - nI 2) rfl rfl) (fun v hv => wi (fun _ => ws ?_) (fun q => absurd (hv.imp (fun e => e) (fun e => e.1)) q))
  rcases hv with q | ⟨q, q1, q2⟩
  · exact Or.inl q
  · refine Or.inr ⟨q, ?_⟩
    have h0 : ¬ x1 < 0 := q1
    obtain ⟨j, hj, rfl⟩ := nI_of h0
    refine ⟨j, ?_, rfl⟩
    rw [Int32.lt_iff_toInt_lt, pk_sub_toInt (by omega) (by decide), nI_toInt hj] at q2
    omega
theorem V_hasTongue {j : Nat} (hj : j < 6) : wp (M_hasTongue (nI j) t) (yn True) := by
  unfold M_hasTongue
  rw [nI_add]
  exact wm rfl (by omega) (by decide) (wi (fun _ => ws (Or.inr ⟨rfl, trivial⟩)) (fun _ => ws (Or.inl rfl)))
theorem V_warm4 (P : PG t 0 R h) (hg : g + 52 ≤ 312) : ∀ (n r fu : Nat) (x2 : Int32), r + n = R → n < fu → wp (M_warmthOn_4 (nI g) t fu x2 (nI r)) (fun _ => True)
  | n, r, 0, x2, hr, hf => absurd hf (by omega)
  | n, r, fu + 1, x2, hr, hf => by
    have h6 := P.2.1
    rw [M_warmthOn_4, P.1]
    refine wi (fun c => ?_) (fun _ => ws trivial)
    rw [nI_ltI (by omega) (by omega)] at c
    obtain ⟨n, rfl⟩ : ∃ m, n = m + 1 := ⟨n - 1, by omega⟩
    rw [nI_add, nI_add]
    exact wm rfl (by omega) (by decide) (V_warm4 P hg n (r + 1) fu _ (by omega) (by omega))
theorem V_warmthOn (P : PG t 0 R h) (hg : g + 52 ≤ 312) : wp (M_warmthOn (nI g) t) (fun _ => True) := by
  unfold M_warmthOn
  exact V_warm4 P hg R 0 FU _ (by omega) (by have := P.2.1; show R < 100000; omega)
theorem V_on4 (P : PG t 0 R h) (hg : g + 52 ≤ 312) : ∀ (n r fu : Nat) (x2 : Int32), r + n = R → n < fu → wp (M_onOn_4 (nI g) t fu x2 (nI r)) (fun _ => True)
  | n, r, 0, x2, hr, hf => absurd hf (by omega)
  | n, r, fu + 1, x2, hr, hf => by
    have h6 := P.2.1
    rw [M_onOn_4, P.1]
    refine wi (fun c => ?_) (fun _ => ws trivial)
    rw [nI_ltI (by omega) (by omega)] at c
    obtain ⟨n, rfl⟩ : ∃ m, n = m + 1 := ⟨n - 1, by omega⟩
    rw [nI_add, nI_add, nI_add]
    exact wm rfl (by omega) (by decide) (V_on4 P hg n (r + 1) fu _ (by omega) (by omega))
theorem V_onOn (P : PG t 0 R h) (hg : g + 52 ≤ 312) : wp (M_onOn (nI g) t) (fun _ => True) := by
  unfold M_onOn
  exact V_on4 P hg R 0 FU _ (by omega) (by have := P.2.1; show R < 100000; omega)
theorem V_cold17 (P : PG t 0 R h) (hg : g + 52 ≤ 312) : ∀ (n r fu : Nat) (x2 : Int32), r + n = R → n < fu → wp (M_coldestOn_17 (nI g) t fu x2 (nI r)) (fun _ => True)
  | n, r, 0, x2, hr, hf => absurd hf (by omega)
  | n, r, fu + 1, x2, hr, hf => by
    have h6 := P.2.1
    rw [M_coldestOn_17, P.1]
    refine wi (fun c => ?_) (fun _ => ws trivial)
    rw [nI_ltI (by omega) (by omega)] at c
    obtain ⟨n, rfl⟩ : ∃ m, n = m + 1 := ⟨n - 1, by omega⟩
    simp only [nI_add]
    exact wm rfl (by omega) (by decide) (wi (fun _ => wm rfl (by omega) (by decide) (V_cold17 P hg n (r + 1) fu _ (by omega) (by omega))) (fun _ => V_cold17 P hg n (r + 1) fu _ (by omega) (by omega)))
theorem V_coldestOn (P : PG t 0 R h) (hg : g + 52 ≤ 312) : wp (M_coldestOn (nI g) t) (fun _ => True) := by
  unfold M_coldestOn
  have := P.2.1
  exact wi (fun _ => V_cold17 P hg R 0 FU _ (by omega) (by show R < 100000; omega)) (fun _ => V_cold17 P hg R 0 FU _ (by omega) (by show R < 100000; omega))
/-- a page is copied onto another -/
def cpM (t : sg) (a b n : Nat) : sg := fun p k => if p = 11 ∧ b ≤ k ∧ k < b + n then t 11 (a + (k - b)) else t p k
theorem V_cop2 {a b : Nat} {t0 : sg} (ha : a + 52 ≤ 312) (hb : b + 52 ≤ 312) (hd : a + 52 ≤ b ∨ b + 52 ≤ a) : ∀ (n r fu : Nat), r + n = 52 → n < fu → M_copies_2 (nI a) (nI b) fu (nI r) (cpM t0 a b r) = some (cpM t0 a b 52)
  | n, r, 0, hr, hf => absurd hf (by omega)
  | n, r, fu + 1, hr, hf => by
    rw [M_copies_2]
    by_cases c : r < 52
    · rw [if_pos (by rw [nI_ltI (by omega) (by decide)]; exact c)]
      obtain ⟨n, rfl⟩ : ∃ m, n = m + 1 := ⟨n - 1, by omega⟩
      rw [nI_add, nI_add, nI_add, midx_nI (by omega) (by decide), midx_nI (by omega) (by decide)]
      show M_copies_2 (nI a) (nI b) fu (nI (r + 1)) (up (cpM t0 a b r) 11 (b + r) (cpM t0 a b r 11 (a + r))) = _
      have e : up (cpM t0 a b r) 11 (b + r) (cpM t0 a b r 11 (a + r)) = cpM t0 a b (r + 1) := by
        funext p k
        by_cases hp : p = 11
        · subst hp
          by_cases hk : k = b + r
          · subst hk
            rw [up_eq]
            simp (disch := omega) only [cpM, if_neg, if_pos, true_and]
            rw [show b + r - b = r by omega]
          · rw [up_k hk]
            by_cases q : b ≤ k ∧ k < b + r
            · simp (disch := omega) only [cpM, if_pos, true_and]
            · simp (disch := omega) only [cpM, if_neg]
        · rw [up_p hp]
          simp (disch := omega) only [cpM, if_neg]
      rw [e]
      exact V_cop2 ha hb hd n (r + 1) fu (by omega) (by omega)
    · rw [if_neg (by rw [nI_ltI (by omega) (by decide)]; exact c)]
      rw [show r = 52 by omega]
theorem copies_eq {a b : Nat} (ha : a + 52 ≤ 312) (hb : b + 52 ≤ 312) (hd : a + 52 ≤ b ∨ b + 52 ≤ a) : M_copies (nI a) (nI b) t = some (cpM t a b 52) := by
  unfold M_copies
  have e : cpM t a b 0 = t := by funext p k; exact if_neg (by omega)
  have := V_cop2 (t0 := t) ha hb hd 52 0 FU (by omega) (by decide)
  rw [e] at this
  exact this
theorem cpM_pg {a b : Nat} (P : PG t a R h) (hb : b + 52 ≤ 312) : PG (cpM t a b 52) b R h := by
  refine ⟨(if_neg (by omega)).trans P.1, P.2.1, hb, ?_⟩
  unfold cpM
  rw [if_pos ⟨rfl, by omega, by omega⟩, show a + (b + 49 - b) = a + 49 by omega]
  exact P.2.2.2
theorem cpM_m {a b : Nat} (hb : 156 ≤ b) : offM t (cpM t a b 52) := fun p k w1 _ _ _ => if_neg (fun w => w1 ⟨w.1, by omega⟩)
theorem V_copies {a b : Nat} (P : PG t a R h) (hb : 156 ≤ b) (hb2 : b + 52 ≤ 312) (hd : a + 52 ≤ b ∨ b + 52 ≤ a) : wp (M_copies (nI a) (nI b) t) (fun t' => PG t' b R h ∧ offM t t') := ⟨_, copies_eq P.2.2.1 hb2 hd, cpM_pg P hb2, cpM_m hb⟩
theorem PG.u10 {k : Nat} {v : Int32} (P : PG t g R h) (hk : k = 19 ∨ k = 20) : PG (up t 10 k v) g R h := ⟨(up_k (by omega)).trans P.1, P.2.1, P.2.2.1, (up_p (by decide)).trans P.2.2.2⟩
theorem V_hg27 {N : Nat} {t0 : sg} {h0 : Nat} (hN : N < 1000) (P0 : PG t0 0 R h0) : ∀ (n r fu h : Nat) (t : sg), offM t0 t → PG t 208 R h → h + n < 2 ^ 29 → r + n = N → n < fu → wp (M_hoursGo_27 (nI N) fu (nI r) t) (fun v => offM t0 v.2)
  | n, r, 0, h, t, o, P, hh, hr, hf => absurd hf (by omega)
  | n, r, fu + 1, h, t, o, P, hh, hr, hf => by
    rw [M_hoursGo_27]
    refine wi (fun c => ?_) (fun _ => wm rfl (by decide) (by decide) (wm rfl (by decide) (by decide) (ws o)))
    rw [nI_ltI (by omega) (by omega)] at c
    obtain ⟨n, rfl⟩ : ∃ m, n = m + 1 := ⟨n - 1, by omega⟩
    refine wb (V_goesOn P (by omega)) (fun t1 g1 => ?_)
    have o1 : offM t0 t1 := o.tr (g1.2.m (by decide))
    refine wb (V_coldestOn (P0.m o1 (by decide)) (by decide)) (fun v2 _ => ?_)
    have w : ∀ y0 : Int32, wp (M_hoursGo_67 (M_hoursGo_27 (nI N) fu) (nI N) (nI r) v2 y0 t1) (fun v => offM t0 v.2) := fun y0 => by
      unfold M_hoursGo_67 M_hoursGo_89
      have k : ∀ y1 : Int32, wp (M_hoursGo_27 (nI N) fu (nI r + nI 1) (up (up t1 10 19 y0) 10 20 y1)) (fun v => offM t0 v.2) := fun y1 => by
        rw [nI_add]
        exact V_hg27 hN P0 n (r + 1) fu (h + 1) _ ((o1.tr (offM.u10 (by omega))).tr (offM.u10 (by omega))) ((g1.1.u10 (by omega)).u10 (by omega)) (by omega) (by omega) (by omega)
      exact wsb (wi (fun _ => wsb (k _)) (fun _ => wsb (k _)))
    exact wi (fun _ => w _) (fun _ => w _)
theorem V_hoursGo {a N : Nat} {t0 : sg} {h0 : Nat} (hN : N < 1000) (P0 : PG t0 0 R h0) (o : offM t0 t) (P : PG t a R h) (hh : h < 2 ^ 28) (hd : a + 52 ≤ 208 ∨ 260 ≤ a) : wp (M_hoursGo (nI a) (nI N) t) (fun v => offM t0 v.2) := by
  unfold M_hoursGo
  refine wb (V_copies (b := 208) P (by decide) (by decide) (by omega)) (fun t1 g1 => ?_)
  have o1 := o.tr g1.2
  refine wb (V_coldestOn (P0.m o1 (by decide)) (by decide)) (fun v2 _ => wsb (wsb ?_))
  exact V_hg27 hN P0 N 0 FU h _ ((o1.tr (offM.u10 (by omega))).tr (offM.u10 (by omega))) ((g1.1.u10 (by omega)).u10 (by omega)) (by omega) (by omega) (by show N < 100000; omega)
theorem V_M_runs (P : PG t 0 R h) (hh : h ≤ 999) : wp (M_runs x1 x2 t) (fun v => offM t v.2) := by
  unfold M_runs
  refine wbB (V_inN (a := 0) (c := 60) rfl rfl (by decide) (by decide)) (ws offM.rf) (fun q => wbB (V_inN (a := 0) (c := 4) rfl rfl (by decide) (by decide)) (ws offM.rf) (fun _ => ?_))
  obtain ⟨N, -, hN, rfl⟩ := q
  refine wb (V_hoursGo (by omega) P offM.rf P (by omega) (by decide)) (fun v o => ?_)
  have P' := P.m o (by decide)
  exact wi (fun _ => ws o) (fun _ => wi (fun _ => wm rfl (by decide) (by decide) (wm rfl (by decide) (by decide) (ws o))) (fun _ => wi (fun _ => wb (V_warmthOn P' (by decide)) (fun _ _ => ws o)) (fun _ => wi (fun _ => ws o) (fun _ => wb (V_onOn P' (by decide)) (fun _ _ => ws o)))))
theorem V_M_ahead (P : PG t 0 R h) (hh : h ≤ 999) : wp (M_ahead x1 x2 x3 t) (fun v => offM t v.2) := by
  have h6 := P.2.1
  unfold M_ahead
  refine wbB (V_isRoom P) (ws offM.rf) (fun q0 => wbB (V_inN (a := 0) (c := 60) rfl rfl (by decide) (by decide)) (ws offM.rf) (fun q => wbB (V_inN (a := 0) (c := 1) rfl rfl (by decide) (by decide)) (ws offM.rf) (fun _ => ?_)))
  obtain ⟨j, hj, rfl⟩ := q0
  obtain ⟨N, -, hN, rfl⟩ := q
  refine wb (V_hoursGo (by omega) P offM.rf P (by omega) (by decide)) (fun v o => ?_)
  rw [nI_add, nI_add]
  exact wi (fun _ => wm rfl (by omega) (by decide) (ws o)) (fun _ => wm rfl (by omega) (by decide) (ws o))
theorem V_cold32 {j : Nat} {t0 : sg} (hj : j < 6) : ∀ (n r fu h : Nat) (t : sg), offM t0 t → PG t 208 R h → h + n < 2 ^ 29 → r + n = 61 → n < fu → wp (M_cold_32 (nI j) x2 fu (nI r) t) (fun v => offM t0 v.2)
  | n, r, 0, h, t, o, P, hh, hr, hf => absurd hf (by omega)
  | n, r, fu + 1, h, t, o, P, hh, hr, hf => by
    rw [M_cold_32]
    simp only [nI_add]
    refine wi (fun _ => ws o) (fun c => wm rfl (by omega) (by decide) (wi (fun _ => ?_) (fun _ => ws o)))
    rw [nI_ltI (by decide) (by omega)] at c
    obtain ⟨n, rfl⟩ : ∃ m, n = m + 1 := ⟨n - 1, by omega⟩
    exact wb (V_goesOn P (by omega)) (fun t1 g1 => V_cold32 hj n (r + 1) fu (h + 1) t1 (o.tr (g1.2.m (by decide))) g1.1 (by omega) (by omega) (by omega))
theorem V_M_cold (P : PG t 0 R h) (hh : h ≤ 999) : wp (M_cold x1 x2 t) (fun v => offM t v.2) := by
  have h6 := P.2.1
  unfold M_cold
  refine wbB (V_isRoom P) (ws offM.rf) (fun q0 => wbB (V_inN (a := 0) (c := 99) rfl rfl (by decide) (by decide)) (ws offM.rf) (fun _ => ?_))
  obtain ⟨j, hj, rfl⟩ := q0
  exact wb (V_copies (b := 208) P (by decide) (by decide) (by decide)) (fun t1 g1 => V_cold32 (by omega) 61 0 FU h t1 g1.2 g1.1 (by omega) (by omega) (by decide))
theorem V_ag38 {t0 : sg} {k10 : Int32 → sg → Option (Int32 × sg)} {y1 : Int32} (P : PG t 0 R h) (o : offM t0 t) (hk : wp (k10 (y1 + nI 1) t) (fun v => offM t0 v.2)) : ∀ (n r fu : Nat) (x2 : Int32), r + n = R → n < fu → wp (M_again_38 k10 y1 fu x2 (nI r) t) (fun v => offM t0 v.2)
  | n, r, 0, x2, hr, hf => absurd hf (by omega)
  | n, r, fu + 1, x2, hr, hf => by
    have h6 := P.2.1
    rw [M_again_38, P.1]
    refine wi (fun c => ?_) (fun _ => wi (fun _ => hk) (fun _ => ws o))
    rw [nI_ltI (by omega) (by omega)] at c
    obtain ⟨n, rfl⟩ : ∃ m, n = m + 1 := ⟨n - 1, by omega⟩
    simp only [nI_add]
    have k : ∀ y : Int32, wp (M_again_38 k10 y1 fu y (nI (r + 1)) t) (fun v => offM t0 v.2) := fun y => V_ag38 P o hk n (r + 1) fu y (by omega) (by omega)
    exact wi (fun _ => k _) (fun _ => wm rfl (by omega) (by decide) (wm rfl (by omega) (by decide) (wi (fun _ => wm rfl (by omega) (by decide) (wm rfl (by omega) (by decide) (wi (fun _ => k _) (fun _ => k _)))) (fun _ => k _))))
theorem V_ag10 {t0 : sg} {h0 : Nat} (P0 : PG t0 0 R h0) : ∀ (n r fu h : Nat) (t : sg), offM t0 t → PG t 208 R h → h + n < 2 ^ 29 → r + n = 57 → n < fu → wp (M_again_10 fu (nI r) t) (fun v => offM t0 v.2)
  | n, r, 0, h, t, o, P, hh, hr, hf => absurd hf (by omega)
  | n, r, fu + 1, h, t, o, P, hh, hr, hf => by
    have h6 := P.2.1
    rw [M_again_10]
    refine wi (fun _ => ws o) (fun c => ?_)
    rw [nI_ltI (by decide) (by omega)] at c
    obtain ⟨n, rfl⟩ : ∃ m, n = m + 1 := ⟨n - 1, by omega⟩
    refine wb (V_goesOn P (by omega)) (fun t1 g1 => ?_)
    have o1 := o.tr (g1.2.m (by decide))
    have k : wp (M_again_10 fu (nI r + nI 1) t1) (fun v => offM t0 v.2) := by
      rw [nI_add]
      exact V_ag10 P0 n (r + 1) fu (h + 1) t1 o1 g1.1 (by omega) (by omega) (by omega)
    exact wi (fun _ => V_ag38 (P0.m o1 (by decide)) o1 k R 0 FU _ (by omega) (by show R < 100000; omega)) (fun _ => V_ag38 (P0.m o1 (by decide)) o1 k R 0 FU _ (by omega) (by show R < 100000; omega))
theorem V_M_again (P : PG t 0 R h) (hh : h ≤ 999) : wp (M_again t) (fun v => offM t v.2) := by
  unfold M_again
  exact wb (V_copies (b := 208) P (by decide) (by decide) (by decide)) (fun t1 g1 => V_ag10 P 56 1 FU h t1 g1.2 g1.1 (by omega) (by omega) (by decide))
theorem V_kw11 {j N : Nat} {t0 : sg} (hj : j < 6) (hN : N < 1000) : ∀ (n r fu h : Nat) (t : sg), offM t0 t → PG t 208 R h → h + n < 2 ^ 29 → r + n = N → n < fu → wp (M_keepsWarm_11 (nI j) (nI N) x4 fu (nI r) t) (fun v => offM t0 v.2)
  | n, r, 0, h, t, o, P, hh, hr, hf => absurd hf (by omega)
  | n, r, fu + 1, h, t, o, P, hh, hr, hf => by
    rw [M_keepsWarm_11]
    simp only [nI_add]
    refine wi (fun c => ?_) (fun _ => ws o)
    rw [nI_ltI (by omega) (by omega)] at c
    obtain ⟨n, rfl⟩ : ∃ m, n = m + 1 := ⟨n - 1, by omega⟩
    refine wb (V_goesOn P (by omega)) (fun t1 g1 => ?_)
    have o1 := o.tr (g1.2.m (by decide))
    exact wm rfl (by omega) (by decide) (wi (fun _ => ws o1) (fun _ => V_kw11 hj hN n (r + 1) fu (h + 1) t1 o1 g1.1 (by omega) (by omega) (by omega)))
end MQ
end Q51
section Q52
/-! the reference's questions, further -/
def offS (t t' : sg) : Prop := ∀ p k, ¬ (p = 11 ∧ 208 ≤ k ∧ k < 260) → p ≠ 16 → ¬ (p = 10 ∧ (k = 19 ∨ k = 20)) → t' p k = t p k
theorem offS.rf {t : sg} : offS t t := fun _ _ _ _ _ => rfl
theorem offS.tr {t t' t'' : sg} (h1 : offS t t') (h2 : offS t' t'') : offS t t'' := fun p k a b d => (h2 p k a b d).trans (h1 p k a b d)
theorem offP.s {t t' : sg} (o : offP 208 t t') : offS t t' := fun p k a b _ => o p k (fun w => a ⟨w.1, by omega, by omega⟩) b
theorem offS.u10 {t : sg} {k : Nat} {v : Int32} (hk : k = 19 ∨ k = 20) : offS t (up t 10 k v) := fun p j _ _ d => if_neg (fun w => d ⟨w.1, by omega⟩)
theorem offS.m {t t' : sg} (o : offS t t') : offM t t' := fun p k a b _ d => o p k (fun w => a ⟨w.1, by omega⟩) b d
theorem PG.s {t t' : sg} {g R h : Nat} (P : PG t g R h) (o : offS t t') (hg : g + 52 ≤ 208 ∨ 260 ≤ g) : PG t' g R h := ⟨(o 10 1 (by omega) (by decide) (by omega)).trans P.1, P.2.1, P.2.2.1, (o 11 _ (by omega) (by decide) (by omega)).trans P.2.2.2⟩
theorem PG.at {t : sg} {g R h k : Nat} {v : Int32} (P : PG t g R h) (hk : k ≠ g + 49) : PG (up t 11 k v) g R h := ⟨(up_p (by decide)).trans P.1, P.2.1, P.2.2.1, (up_k (by omega)).trans P.2.2.2⟩
section MR
variable {t : sg} {g R h : Nat} {x x1 x2 x3 x4 x5 : Int32}
theorem V_copS {a : Nat} (P : PG t a R h) (hd : a + 52 ≤ 208 ∨ 260 ≤ a) : wp (M_copies (nI a) (nI 208) t) (fun t' => PG t' 208 R h ∧ offS t t') := ⟨_, copies_eq P.2.2.1 (by decide) (by omega), cpM_pg P (by decide), fun p k w1 _ _ => if_neg (fun w => w1 ⟨w.1, by omega, by omega⟩)⟩
theorem V_hgS {N : Nat} {t0 : sg} {h0 : Nat} (hN : N < 1000) (P0 : PG t0 0 R h0) : ∀ (n r fu h : Nat) (t : sg), offS t0 t → PG t 208 R h → h + n < 2 ^ 29 → r + n = N → n < fu → wp (M_hoursGo_27 (nI N) fu (nI r) t) (fun v => offS t0 v.2)
  | n, r, 0, h, t, o, P, hh, hr, hf => absurd hf (by omega)
  | n, r, fu + 1, h, t, o, P, hh, hr, hf => by
    rw [M_hoursGo_27]
    refine wi (fun c => ?_) (fun _ => wm rfl (by decide) (by decide) (wm rfl (by decide) (by decide) (ws o)))
    rw [nI_ltI (by omega) (by omega)] at c
    obtain ⟨n, rfl⟩ : ∃ m, n = m + 1 := ⟨n - 1, by omega⟩
    refine wb (V_goesOn P (by omega)) (fun t1 g1 => ?_)
    have o1 : offS t0 t1 := o.tr g1.2.s
    refine wb (V_coldestOn (P0.s o1 (by decide)) (by decide)) (fun v2 _ => ?_)
    have w : ∀ y0 : Int32, wp (M_hoursGo_67 (M_hoursGo_27 (nI N) fu) (nI N) (nI r) v2 y0 t1) (fun v => offS t0 v.2) := fun y0 => by
      unfold M_hoursGo_67 M_hoursGo_89
      have k : ∀ y1 : Int32, wp (M_hoursGo_27 (nI N) fu (nI r + nI 1) (up (up t1 10 19 y0) 10 20 y1)) (fun v => offS t0 v.2) := fun y1 => by
        rw [nI_add]
        exact V_hgS hN P0 n (r + 1) fu (h + 1) _ ((o1.tr (offS.u10 (by omega))).tr (offS.u10 (by omega))) ((g1.1.u10 (by omega)).u10 (by omega)) (by omega) (by omega) (by omega)
      exact wsb (wi (fun _ => wsb (k _)) (fun _ => wsb (k _)))
    exact wi (fun _ => w _) (fun _ => w _)
theorem V_hours {a N h0 : Nat} (hN : N < 1000) (P0 : PG t 0 R h0) (P : PG t a R h) (hh : h < 2 ^ 28) (hd : a + 52 ≤ 208 ∨ 260 ≤ a) : wp (M_hoursGo (nI a) (nI N) t) (fun v => offS t v.2) := by
  unfold M_hoursGo
  refine wb (V_copS P hd) (fun t1 g1 => ?_)
  refine wb (V_coldestOn (P0.s g1.2 (by decide)) (by decide)) (fun v2 _ => wsb (wsb ?_))
  exact V_hgS hN P0 N 0 FU h _ ((g1.2.tr (offS.u10 (by omega))).tr (offS.u10 (by omega))) ((g1.1.u10 (by omega)).u10 (by omega)) (by omega) (by omega) (by show N < 100000; omega)
theorem V_kwS {j N : Nat} {t0 : sg} (hj : j < 6) (hN : N < 1000) : ∀ (n r fu h : Nat) (t : sg), offS t0 t → PG t 208 R h → h + n < 2 ^ 29 → r + n = N → n < fu → wp (M_keepsWarm_11 (nI j) (nI N) x4 fu (nI r) t) (fun v => offS t0 v.2)
  | n, r, 0, h, t, o, P, hh, hr, hf => absurd hf (by omega)
  | n, r, fu + 1, h, t, o, P, hh, hr, hf => by
    rw [M_keepsWarm_11]
    simp only [nI_add]
    refine wi (fun c => ?_) (fun _ => ws o)
    rw [nI_ltI (by omega) (by omega)] at c
    obtain ⟨n, rfl⟩ : ∃ m, n = m + 1 := ⟨n - 1, by omega⟩
    refine wb (V_goesOn P (by omega)) (fun t1 g1 => ?_)
    have o1 := o.tr g1.2.s
    exact wm rfl (by omega) (by decide) (wi (fun _ => ws o1) (fun _ => V_kwS hj hN n (r + 1) fu (h + 1) t1 o1 g1.1 (by omega) (by omega) (by omega)))
theorem V_need56 {j N : Nat} {t0 : sg} (hj : j < 6) (hN : N < 1000) (hh : h ≤ 999) : ∀ (n r fu : Nat) (t : sg), offM t0 t → PG t 260 R h → r + n = 100 → n < fu → wp (M_need_56 (nI j) (nI N) x3 fu (nI r) t) (fun v => offM t0 v.2)
  | n, r, 0, t, o, P, hr, hf => absurd hf (by omega)
  | n, r, fu + 1, t, o, P, hr, hf => by
    rw [M_need_56]
    refine wi (fun _ => ws o) (fun c => ?_)
    rw [nI_ltI (by decide) (by omega)] at c
    obtain ⟨n, rfl⟩ : ∃ m, n = m + 1 := ⟨n - 1, by omega⟩
    simp only [nI_add]
    refine wm rfl (by omega) (by decide) (wsb ?_)
    have P1 : PG (up t 11 (284 + j) (nI r)) 260 R h := P.at (by omega)
    have o1 : offM t0 (up t 11 (284 + j) (nI r)) := o.tr (offM.u11 (by omega))
    refine wb (P := fun v => offS (up t 11 (284 + j) (nI r)) v.2) ?_ (fun v hv => wi (fun _ => V_need56 hj hN hh n (r + 1) fu v.2 (o1.tr hv.m) (P1.s hv (by decide)) (by omega) (by omega)) (fun _ => ws (o1.tr hv.m)))
    unfold M_keepsWarm
    exact wb (V_copS P1 (by decide)) (fun t2 g2 => V_kwS hj hN N 0 FU h t2 g2.2 g2.1 (by omega) (by omega) (by show N < 100000; omega))
theorem V_M_need (P : PG t 0 R h) (hh : h ≤ 999) : wp (M_need x1 x2 x3 t) (fun v => offM t v.2) := by
  have h6 := P.2.1
  unfold M_need
  refine wbB (V_isRoom P) (ws offM.rf) (fun q0 => wbB (V_inN (a := 1) (c := 60) rfl rfl (by decide) (by decide)) (ws offM.rf) (fun q => wbB (V_inN (a := 0) (c := 99) rfl rfl (by decide) (by decide)) (ws offM.rf) (fun _ => ?_)))
  obtain ⟨j, hj, rfl⟩ := q0
  obtain ⟨N, -, hN, rfl⟩ := q
  exact wbB (V_hasTongue (by omega)) (ws offM.rf) (fun _ => wb (V_copies (b := 260) P (by decide) (by decide) (by decide)) (fun t1 g1 => V_need56 (by omega) (by omega) hh 100 0 FU t1 g1.2 g1.1 (by omega) (by decide)))
theorem V_kind61 {j N : Nat} {t0 : sg} {h0 : Nat} (P0 : PG t0 0 R h0) (hj : j < 6) (hN : N < 1000) (hh : h ≤ 999) : ∀ (n r fu : Nat) (t : sg) (x4 x5 : Int32), offM t0 t → PG t 260 R h → r + n = 4 → n < fu → wp (M_kind_61 (nI j) (nI N) x3 fu x4 x5 (nI r) t) (fun v => offM t0 v.2)
  | n, r, 0, t, x4, x5, o, P, hr, hf => absurd hf (by omega)
  | n, r, fu + 1, t, x4, x5, o, P, hr, hf => by
    rw [M_kind_61]
    refine wi (fun c => ?_) (fun _ => wi (fun _ => ws o) (fun _ => ws o))
    rw [nI_ltI (by omega) (by decide)] at c
    obtain ⟨n, rfl⟩ : ∃ m, n = m + 1 := ⟨n - 1, by omega⟩
    simp only [nI_add]
    refine wm rfl (by omega) (by decide) (wsb ?_)
    have P1 : PG (up t 11 (278 + j) (nI (r + 1))) 260 R h := P.at (by omega)
    have o1 : offM t0 (up t 11 (278 + j) (nI (r + 1))) := o.tr (offM.u11 (by omega))
    refine wb (V_hours hN (P0.m o1 (by decide)) P1 (by omega) (by decide)) (fun v hv => ?_)
    have k : ∀ y0 y1 : Int32, wp (M_kind_61 (nI j) (nI N) x3 fu y0 y1 (nI r + nI 1) v.2) (fun v => offM t0 v.2) := fun y0 y1 => by
      rw [nI_add]; exact V_kind61 P0 hj hN hh n (r + 1) fu v.2 y0 y1 (o1.tr hv.m) (P1.s hv (by decide)) (by omega) (by omega)
    unfold M_kind_105
    exact wi (fun _ => wi (fun _ => k _ _) (fun _ => k _ _)) (fun _ => wi (fun _ => k _ _) (fun _ => k _ _))
theorem V_M_kind (P : PG t 0 R h) (hh : h ≤ 999) : wp (M_kind x1 x2 x3 t) (fun v => offM t v.2) := by
  have h6 := P.2.1
  unfold M_kind
  refine wbB (V_isRoom P) (ws offM.rf) (fun q0 => wbB (V_inN (a := 0) (c := 60) rfl rfl (by decide) (by decide)) (ws offM.rf) (fun q => wbB (V_inN (a := 0) (c := 1) rfl rfl (by decide) (by decide)) (ws offM.rf) (fun _ => ?_)))
  obtain ⟨j, hj, rfl⟩ := q0
  obtain ⟨N, -, hN, rfl⟩ := q
  exact wbB (V_hasTongue (by omega)) (ws offM.rf) (fun _ => wb (V_copies (b := 260) P (by decide) (by decide) (by decide)) (fun t1 g1 => V_kind61 P (by omega) (by omega) hh 4 0 FU t1 _ _ g1.2 g1.1 (by omega) (by decide)))
theorem V_sw53 {N a h0 : Nat} {t0 : sg} {k38 : Int32 → Int32 → Int32 → sg → Option (Int32 × sg)} (P0 : PG t0 0 R h0) (hh : h0 ≤ 999) (hN : N < 1000) (ha : a < R) (hk : ∀ y3 y4 t, offM t0 t → wp (k38 y3 y4 (nI a + nI 1) t) (fun v => offM t0 v.2)) : ∀ (n r fu : Nat) (t : sg) (x3 x4 : Int32), offM t0 t → r + n = R → n < fu → wp (M_swap_53 k38 (nI N) x2 (nI a) fu x3 x4 (nI r) t) (fun v => offM t0 v.2)
  | n, r, 0, t, x3, x4, o, hr, hf => absurd hf (by omega)
  | n, r, fu + 1, t, x3, x4, o, hr, hf => by
    have Pt := P0.m o (by decide)
    have h6 := Pt.2.1
    rw [M_swap_53, Pt.1]
    refine wi (fun c => ?_) (fun _ => hk _ _ _ o)
    rw [nI_ltI (by omega) (by omega)] at c
    obtain ⟨n, rfl⟩ : ∃ m, n = m + 1 := ⟨n - 1, by omega⟩
    have k : ∀ (y3 y4 : Int32) (t' : sg), offM t0 t' → wp (M_swap_53 k38 (nI N) x2 (nI a) fu y3 y4 (nI r + nI 1) t') (fun v => offM t0 v.2) := fun y3 y4 t' o' => by
      rw [nI_add]; exact V_sw53 P0 hh hN ha hk n (r + 1) fu t' y3 y4 o' (by omega) (by omega)
    refine wb (V_copies (b := 260) Pt (by decide) (by decide) (by decide)) (fun t1 g1 => ?_)
    have w221 : ∀ (y0 : Int32) (t' : sg), offM t0 t' → PG t' 260 R h0 → wp (M_swap_221 k38 (M_swap_53 k38 (nI N) x2 (nI a) fu) (nI N) x2 x3 x4 (nI a) (nI r) y0 (nI 290 + nI r) t') (fun v => offM t0 v.2) := fun y0 t' o' P' => by
      unfold M_swap_221 M_swap_251
      rw [nI_add]
      refine wm rfl (by omega) (by decide) (wsb ?_)
      have o2 : offM t0 (up t' 11 (290 + r) y0) := o'.tr (offM.u11 (by omega))
      refine wb (V_hours hN (P0.m o2 (by decide)) (P'.at (by omega)) (by omega) (by decide)) (fun v hv => ?_)
      exact wi (fun _ => wi (fun _ => k _ _ _ (o2.tr hv.m)) (fun _ => k _ _ _ (o2.tr hv.m))) (fun _ => wi (fun _ => k _ _ _ (o2.tr hv.m)) (fun _ => k _ _ _ (o2.tr hv.m)))
    have w187 : ∀ (y0 : Int32) (t' : sg), offM t0 t' → PG t' 260 R h0 → wp (M_swap_187 k38 (M_swap_53 k38 (nI N) x2 (nI a) fu) (nI N) x2 x3 x4 (nI a) (nI r) y0 (nI 290 + nI a) t') (fun v => offM t0 v.2) := fun y0 t' o' P' => by
      unfold M_swap_187
      rw [nI_add 290 a]
      refine wm rfl (by omega) (by decide) (wsb ?_)
      have o2 : offM t0 (up t' 11 (290 + a) y0) := o'.tr (offM.u11 (by omega))
      refine wbB (V_hasTongue (by omega)) (w221 _ _ o2 (P'.at (by omega))) (fun _ => ?_)
      exact wm (nI_add 30 r) (by omega) (by decide) (w221 _ _ o2 (P'.at (by omega)))
    have o1 := o.tr g1.2
    refine wm (nI_add 18 r) (by omega) (by decide) (wm (nI_add 278 a) (by omega) (by decide) (wsb (wm (nI_add 18 a) (by omega) (by decide) (wm (nI_add 278 r) (by omega) (by decide) (wsb (wm (nI_add 24 r) (by omega) (by decide) (wm (nI_add 284 a) (by omega) (by decide) (wsb (wm (nI_add 24 a) (by omega) (by decide) (wm (nI_add 284 r) (by omega) (by decide) (wsb ?_)))))))))))
    have o5 : ∀ v1 v2 v3 v4 : Int32, offM t0 (up (up (up (up t1 11 (278 + a) v1) 11 (278 + r) v2) 11 (284 + a) v3) 11 (284 + r) v4) := fun v1 v2 v3 v4 => (((o1.tr (offM.u11 (by omega))).tr (offM.u11 (by omega))).tr (offM.u11 (by omega))).tr (offM.u11 (by omega))
    have P5 : ∀ v1 v2 v3 v4 : Int32, PG (up (up (up (up t1 11 (278 + a) v1) 11 (278 + r) v2) 11 (284 + a) v3) 11 (284 + r) v4) 260 R h0 := fun v1 v2 v3 v4 => (((g1.1.at (by omega)).at (by omega)).at (by omega)).at (by omega)
    exact wbB (V_hasTongue (by omega)) (w187 _ _ (o5 _ _ _ _) (P5 _ _ _ _)) (fun _ => wm (nI_add 30 a) (by omega) (by decide) (w187 _ _ (o5 _ _ _ _) (P5 _ _ _ _)))
theorem V_sw38 {N h0 : Nat} {t0 : sg} (P0 : PG t0 0 R h0) (hh : h0 ≤ 999) (hN : N < 1000) : ∀ (n r fu : Nat) (t : sg) (x3 x4 : Int32), offM t0 t → r + n = R → n < fu → wp (M_swap_38 (nI N) x2 fu x3 x4 (nI r) t) (fun v => offM t0 v.2)
  | n, r, 0, t, x3, x4, o, hr, hf => absurd hf (by omega)
  | n, r, fu + 1, t, x3, x4, o, hr, hf => by
    have Pt := P0.m o (by decide)
    have h6 := Pt.2.1
    rw [M_swap_38, Pt.1]
    refine wi (fun c => ?_) (fun _ => wi (fun _ => ws o) (fun _ => wi (fun _ => ws o) (fun _ => ws o)))
    rw [nI_ltI (by omega) (by omega)] at c
    obtain ⟨n, rfl⟩ : ∃ m, n = m + 1 := ⟨n - 1, by omega⟩
    rw [nI_add]
    refine V_sw53 P0 hh hN c (fun y3 y4 t' o' => ?_) (R - (r + 1)) (r + 1) FU t x3 x4 o (by omega) (by show R - (r + 1) < 100000; omega)
    rw [nI_add]
    exact V_sw38 P0 hh hN n (r + 1) fu t' y3 y4 o' (by omega) (by omega)
theorem V_M_swap (P : PG t 0 R h) (hh : h ≤ 999) : wp (M_swap x1 x2 t) (fun v => offM t v.2) := by
  unfold M_swap
  refine wbB (V_inN (a := 0) (c := 60) rfl rfl (by decide) (by decide)) (ws offM.rf) (fun q => wbB (V_inN (a := 0) (c := 1) rfl rfl (by decide) (by decide)) (ws offM.rf) (fun _ => ?_))
  obtain ⟨N, -, hN, rfl⟩ := q
  exact wb (V_hours (by omega) P P (by omega) (by decide)) (fun v o => V_sw38 P hh (by omega) R 0 FU v.2 _ _ o.m (by omega) (by have := P.2.1; show R < 100000; omega))
theorem V_se38 {N h0 : Nat} {t0 : sg} (P0 : PG t0 0 R h0) (hh : h0 ≤ 999) (hN : N < 1000) : ∀ (n r fu : Nat) (t : sg) (x3 x4 : Int32), offM t0 t → r + n = R → n < fu → wp (M_seal_38 (nI N) x2 fu x3 x4 (nI r) t) (fun v => offM t0 v.2)
  | n, r, 0, t, x3, x4, o, hr, hf => absurd hf (by omega)
  | n, r, fu + 1, t, x3, x4, o, hr, hf => by
    have Pt := P0.m o (by decide)
    have h6 := Pt.2.1
    rw [M_seal_38, Pt.1]
    refine wi (fun c => ?_) (fun _ => wi (fun _ => ws o) (fun _ => wi (fun _ => ws o) (fun _ => ws o)))
    rw [nI_m1 (by omega) (by omega)] at c
    obtain ⟨n, rfl⟩ : ∃ m, n = m + 1 := ⟨n - 1, by omega⟩
    refine wb (V_copies (b := 260) Pt (by decide) (by decide) (by decide)) (fun t1 g1 => wm (nI_add 296 r) (by omega) (by decide) (wsb ?_))
    have o1 : offM t0 (up t1 11 (296 + r) (-2)) := (o.tr g1.2).tr (offM.u11 (by omega))
    refine wb (V_hours hN (P0.m o1 (by decide)) (g1.1.at (by omega)) (by omega) (by decide)) (fun v hv => ?_)
    have k : ∀ y3 y4 : Int32, wp (M_seal_38 (nI N) x2 fu y3 y4 (nI r + nI 1) v.2) (fun v => offM t0 v.2) := fun y3 y4 => by
      rw [nI_add]; exact V_se38 P0 hh hN n (r + 1) fu v.2 y3 y4 (o1.tr hv.m) (by omega) (by omega)
    unfold M_seal_93
    exact wi (fun _ => wi (fun _ => k _ _) (fun _ => k _ _)) (fun _ => wi (fun _ => k _ _) (fun _ => k _ _))
theorem V_M_seal (P : PG t 0 R h) (hh : h ≤ 999) : wp (M_seal x1 x2 t) (fun v => offM t v.2) := by
  unfold M_seal
  refine wbB (V_inN (a := 0) (c := 60) rfl rfl (by decide) (by decide)) (ws offM.rf) (fun q => wbB (V_inN (a := 0) (c := 1) rfl rfl (by decide) (by decide)) (ws offM.rf) (fun _ => ?_))
  obtain ⟨N, -, hN, rfl⟩ := q
  exact wb (V_hours (by omega) P P (by omega) (by decide)) (fun v o => V_se38 P hh (by omega) R 0 FU v.2 _ _ o.m (by omega) (by have := P.2.1; show R < 100000; omega))
theorem V_strips {a j : Nat} (ha : a + 52 ≤ 312) (hj : j < 6) : wp (M_stripsOn (nI a) (nI j) t) (fun t' => ∃ v1 v2 v3 : Int32, t' = up (up (up t 11 (a + 18 + j) v1) 11 (a + 24 + j) v2) 11 (a + 30 + j) v3) := by
  unfold M_stripsOn
  simp only [nI_add]
  exact wm rfl (by omega) (by decide) (wsb (wm rfl (by omega) (by decide) (wsb (wm rfl (by omega) (by decide) (wsb (ws ⟨_, _, _, rfl⟩))))))
theorem V_sp47 {N h0 : Nat} {t0 : sg} (P0 : PG t0 0 R h0) (hh : h0 ≤ 999) (hN : N < 1000) : ∀ (n r fu : Nat) (t : sg) (x4 x5 : Int32), offM t0 t → r + n = R → n < fu → wp (M_spare_47 (nI N) x2 x3 fu x4 x5 (nI r) t) (fun v => offM t0 v.2)
  | n, r, 0, t, x4, x5, o, hr, hf => absurd hf (by omega)
  | n, r, fu + 1, t, x4, x5, o, hr, hf => by
    have Pt := P0.m o (by decide)
    have h6 := Pt.2.1
    rw [M_spare_47, Pt.1]
    refine wi (fun c => ?_) (fun _ => wi (fun _ => ws o) (fun _ => wi (fun _ => ws o) (fun _ => ws o)))
    rw [nI_ltI (by omega) (by omega)] at c
    obtain ⟨n, rfl⟩ : ∃ m, n = m + 1 := ⟨n - 1, by omega⟩
    have k : ∀ (y3 y4 : Int32) (t' : sg), offM t0 t' → wp (M_spare_47 (nI N) x2 x3 fu y3 y4 (nI r + nI 1) t') (fun v => offM t0 v.2) := fun y3 y4 t' o' => by
      rw [nI_add]; exact V_sp47 P0 hh hN n (r + 1) fu t' y3 y4 o' (by omega) (by omega)
    refine wbB (V_hasTongue (by omega)) (k _ _ _ o) (fun _ => ?_)
    refine wb (V_copies (b := 260) Pt (by decide) (by decide) (by decide)) (fun t1 g1 => wb (V_strips (by decide) (by omega)) (fun t2 g2 => ?_))
    obtain ⟨v1, v2, v3, rfl⟩ := g2
    have o2 : offM t0 (up (up (up t1 11 (260 + 18 + r) v1) 11 (260 + 24 + r) v2) 11 (260 + 30 + r) v3) := (((o.tr g1.2).tr (offM.u11 (by omega))).tr (offM.u11 (by omega))).tr (offM.u11 (by omega))
    refine wb (V_hours hN (P0.m o2 (by decide)) (((g1.1.at (by omega)).at (by omega)).at (by omega)) (by omega) (by decide)) (fun v hv => ?_)
    have w : ∀ y0 : Int32, wp (M_spare_112 (M_spare_47 (nI N) x2 x3 fu) (nI N) x2 x3 x4 x5 (nI r) v.1 y0 v.2) (fun v => offM t0 v.2) := fun y0 => by
      unfold M_spare_112 M_spare_126
      exact wi (fun _ => wi (fun _ => k _ _ _ (o2.tr hv.m)) (fun _ => k _ _ _ (o2.tr hv.m))) (fun _ => wi (fun _ => k _ _ _ (o2.tr hv.m)) (fun _ => k _ _ _ (o2.tr hv.m)))
    unfold M_spare_111
    exact wi (fun _ => w _) (fun _ => wi (fun _ => w _) (fun _ => w _))
theorem V_M_spare (P : PG t 0 R h) (hh : h ≤ 999) : wp (M_spare x1 x2 x3 t) (fun v => offM t v.2) := by
  unfold M_spare
  refine wbB (V_inN (a := 0) (c := 60) rfl rfl (by decide) (by decide)) (ws offM.rf) (fun q => wbB (V_inN (a := 0) (c := 99) rfl rfl (by decide) (by decide)) (ws offM.rf) (fun _ => wbB (V_inN (a := 0) (c := 1) rfl rfl (by decide) (by decide)) (ws offM.rf) (fun _ => ?_)))
  obtain ⟨N, -, hN, rfl⟩ := q
  exact V_sp47 P hh (by omega) R 0 FU t _ _ offM.rf (by omega) (by have := P.2.1; show R < 100000; omega)
theorem V_dr48 {N h0 : Nat} {t0 : sg} (P0 : PG t0 0 R h0) (hN : N < 1000) : ∀ (n r fu h : Nat) (t : sg) (x4 : Int32), offM t0 t → PG t 208 R h → r + n = N → n < fu → wp (M_drift_48 (nI N) x3 fu x4 (nI r) t) (fun v => offM t0 v.2)
  | n, r, 0, h, t, x4, o, P, hr, hf => absurd hf (by omega)
  | n, r, fu + 1, h, t, x4, o, P, hr, hf => by
    rw [M_drift_48]
    refine wi (fun c => ?_) (fun _ => wi (fun _ => wm rfl (by decide) (by decide) (wm rfl (by decide) (by decide) (ws o))) (fun _ => wb (V_warmthOn (P0.m o (by decide)) (by decide)) (fun _ _ => ws o)))
    rw [nI_ltI (by omega) (by omega)] at c
    obtain ⟨n, rfl⟩ : ∃ m, n = m + 1 := ⟨n - 1, by omega⟩
    refine wb (V_hourOn P) (fun t1 g1 => ?_)
    rw [nI_add r 1]
    exact V_dr48 P0 hN n (r + 1) fu (h + 1) t1 _ (o.tr (g1.2.m (by decide))) g1.1 (by omega) (by omega)
theorem V_M_drift (P : PG t 0 R h) : wp (M_drift x1 x2 x3 t) (fun v => offM t v.2) := by
  unfold M_drift
  refine wbB (V_inN (a := 1) (c := 60) rfl rfl (by decide) (by decide)) (ws offM.rf) (fun q => wbB (V_inN (a := 0) (c := 1) rfl rfl (by decide) (by decide)) (ws offM.rf) (fun _ => wi (fun _ => ws offM.rf) (fun _ => ?_)))
  obtain ⟨N, -, hN, rfl⟩ := q
  exact wb (V_copies (b := 208) P (by decide) (by decide) (by decide)) (fun t1 g1 => V_dr48 P (by omega) N 0 FU h t1 _ g1.2 g1.1 (by omega) (by show N < 100000; omega))
end MR
end Q52
section Q53
/-! the reference's fuse, and what was felt -/
theorem rem64 (x y : Int64) (hy : ¬ y = 0) : (x - x / y * y).toInt = x.toInt.tmod y.toInt := by
  have h0 : y.toInt ≠ 0 := fun q => hy (Int64.toInt_inj.mp q)
  have h1 := Int64.minValue_le_toInt y
  have h2 := Int64.toInt_le y
  have e1 : Int64.minValue.toInt = -9223372036854775808 := by decide
  have e2 : Int64.maxValue.toInt = 9223372036854775807 := by decide
  rw [e1] at h1
  rw [e2] at h2
  have hb : (x.toInt.tmod y.toInt).natAbs < y.toInt.natAbs := by
    rw [Int.natAbs_tmod]
    exact Nat.mod_lt _ (by omega)
  rw [Int64.toInt_sub, Int64.toInt_mul, Int64.toInt_div]
  rw [Int.sub_bmod_bmod, ← Int.sub_bmod_bmod, Int.bmod_mul_bmod, Int.sub_bmod_bmod]
  have e : x.toInt - x.toInt.tdiv y.toInt * y.toInt = x.toInt.tmod y.toInt := by
    have := Int.tdiv_mul_add_tmod x.toInt y.toInt
    omega
  rw [e]
  exact Int.bmod_eq_of_le (by omega) (by omega)
theorem V_low6 {x0 x2 : Int64} {x4 : Int32} {t : sg} : ∀ (n fu : Nat) (x5 x7 : Int64), x7.toInt.natAbs < 2 ^ n → (¬ x5 = 0 ∨ ¬ x7 = 0) → 2 * n + 1 ≤ fu → wp (M_lowest_6 x0 x2 x4 t fu x5 x7) (fun _ => True)
  | n, 0, x5, x7, hn, hz, hf => absurd hf (by omega)
  | n, fu + 1, x5, x7, hn, hz, hf => by
    rw [M_lowest_6]
    refine wi (fun c => ?_) (fun c => wi (fun q => absurd q c) (fun _ => ?_))
    · have h5 : ¬ x5 = 0 := hz.resolve_right (fun q => q c)
      have w : ∀ y : Int64, wp (M_lowest_41 x5 y t) (fun _ => True) := fun y => by
        unfold M_lowest_41
        exact wi (fun q => absurd q h5) (fun _ => ws trivial)
      exact wi (fun _ => w _) (fun _ => w _)
    · have hr := rem64 x5 x7 c
      generalize x5 - x5 / x7 * x7 = r at hr
      have h7 : x7.toInt ≠ 0 := fun q => c (Int64.toInt_inj.mp q)
      have hb : r.toInt.natAbs < x7.toInt.natAbs := by
        rw [hr, Int.natAbs_tmod]; exact Nat.mod_lt _ (by omega)
      obtain ⟨n, rfl⟩ : ∃ m, n = m + 1 := ⟨n - 1, by
        rcases n with - | n
        · simp at hn; omega
        · omega⟩
      by_cases q : r.toInt.natAbs < 2 ^ n
      · exact V_low6 n fu x7 r q (Or.inl c) (by omega)
      · obtain ⟨fu, rfl⟩ : ∃ m, fu = m + 1 := ⟨fu - 1, by omega⟩
        have hr0 : ¬ r = 0 := fun e => q (by rw [e]; exact Nat.pos_of_ne_zero (by simp))
        rw [M_lowest_6]
        refine wi (fun q => absurd q hr0) (fun _ => wi (fun q => absurd q hr0) (fun _ => ?_))
        have hr2 := rem64 x7 r hr0
        refine V_low6 n fu r _ ?_ (Or.inl hr0) (by omega)
        rw [hr2, Int.natAbs_tmod]
        have e : x7.toInt.natAbs % r.toInt.natAbs = x7.toInt.natAbs - r.toInt.natAbs := by
          rw [Nat.mod_eq_sub_mod (by omega)]
          exact Nat.mod_eq_of_lt (by rw [Nat.pow_succ] at hn; omega)
        rw [e]
        rw [Nat.pow_succ] at hn
        omega
theorem V_lowest {x0 x2 : Int64} {x4 : Int32} {t : sg} (h : ¬ x2 = 0) : wp (M_lowest x0 x2 x4 t) (fun _ => True) := by
  unfold M_lowest
  refine V_low6 64 FU x0 x2 ?_ (Or.inr h) (by decide)
  have h1 := Int64.minValue_le_toInt x2
  have h2 := Int64.toInt_le x2
  have e1 : Int64.minValue.toInt = -9223372036854775808 := by decide
  have e2 : Int64.maxValue.toInt = 9223372036854775807 := by decide
  rw [e1] at h1
  rw [e2] at h2
  omega
def p10 : Nat → Int64
  | 0 => 1
  | n + 1 => p10 n * 10
theorem p10_ne : ∀ n : Nat, n < 9 → ¬ p10 n = 0 := by decide
theorem sh_n : ∀ n : Nat, n < 9 → (nI 1) <<< (nI n &&& 31) = nI (2 ^ n) := by decide
section MF
variable {t t0 : sg} {g R h h0 : Nat} {x x1 x2 x3 x4 x5 : Int32}
theorem V_bf54 {n : Nat} {x6 x8 : Int64} {x10 : Int32} {k32 : Int64 → Int32 → sg → Option (Int64 × sg)} (hx : x2 = -4 ∨ ∃ j : Nat, j < 6 ∧ x2 = nI j) (hn : n ≤ 8) (hk : ∀ y t, offM t0 t → wp (k32 y (x10 + nI 1) t) (fun v => offM t0 v.2)) : ∀ (m q fu h : Nat) (x11 : Int64) (t : sg), offM t0 t → PG t 208 R h → h + m < 2 ^ 29 → q + m = n → m < fu → wp (M_byFuse_54 k32 x1 x2 (nI n) x4 x5 x6 x8 x10 fu x11 (nI q) t) (fun v => offM t0 v.2)
  | m, q, 0, h, x11, t, o, P, hh, hr, hf => absurd hf (by omega)
  | m, q, fu + 1, h, x11, t, o, P, hh, hr, hf => by
    rw [M_byFuse_54]
    refine wi (fun c => ?_) (fun _ => wi (fun _ => ?_) (fun c => ?_))
    · rw [nI_ltI (by omega) (by omega)] at c
      obtain ⟨m, rfl⟩ : ∃ k, m = k + 1 := ⟨m - 1, by omega⟩
      have w : ∀ (y1 : Int32) (y2 y3 : Int64), wp (M_byFuse_95 k32 (M_byFuse_54 k32 x1 x2 (nI n) x4 x5 x6 x8 x10 fu) x1 x2 (nI n) x4 x5 x6 x8 x10 (nI q) y1 y2 y3 t) (fun v => offM t0 v.2) := fun y1 y2 y3 => by
        unfold M_byFuse_95
        refine wb (V_outOn P (by omega)) (fun v1 _ => wb (V_hourOn P) (fun t1 g1 => ?_))
        rw [nI_add]
        exact V_bf54 hx hn hk m (q + 1) fu (h + 1) _ t1 (o.tr (g1.2.m (by decide))) g1.1 (by omega) (by omega) (by omega)
      unfold M_byFuse_76
      exact wi (fun _ => wi (fun _ => w _ _ _) (fun _ => w _ _ _)) (fun _ => wi (fun _ => w _ _ _) (fun _ => w _ _ _))
    · exact wm rfl (by decide) (by decide) (wm rfl (by decide) (by decide) (hk _ _ o))
    · obtain ⟨j, hj, rfl⟩ := hx.resolve_left c
      exact wm (nI_add 208 j) (by omega) (by decide) (wi (fun _ => hk _ _ o) (fun _ => hk _ _ o))
theorem V_bf32 {n : Nat} {x8 : Int64} (P0 : PG t0 0 R h0) (hh : h0 ≤ 999) (h8 : ¬ x8 = 0) (hx : x2 = -4 ∨ ∃ j : Nat, j < 6 ∧ x2 = nI j) (hn : n ≤ 8) : ∀ (m q fu : Nat) (x6 : Int64) (t : sg), offM t0 t → q + m = 2 ^ n → m < fu → wp (M_byFuse_32 x1 x2 (nI n) x4 x5 x8 fu x6 (nI q) t) (fun v => offM t0 v.2)
  | m, q, 0, x6, t, o, hr, hf => absurd hf (by omega)
  | m, q, fu + 1, x6, t, o, hr, hf => by
    have hp : 2 ^ n ≤ 256 := Nat.pow_le_pow_right (n := 2) (by decide) hn
    rw [M_byFuse_32, sh_n n (by omega)]
    refine wi (fun c => ?_) (fun _ => wb (V_lowest h8) (fun _ _ => ws o))
    rw [nI_ltI (by omega) (by omega)] at c
    obtain ⟨m, rfl⟩ : ∃ k, m = k + 1 := ⟨m - 1, by omega⟩
    refine wb (V_copies (b := 208) (P0.m o (by decide)) (by decide) (by decide) (by decide)) (fun t1 g1 => ?_)
    refine V_bf54 hx hn (fun y t' o' => ?_) n 0 FU h0 _ t1 (o.tr g1.2) g1.1 (by omega) (by omega) (by show n < 100000; omega)
    rw [nI_add]
    exact V_bf32 P0 hh h8 hx hn m (q + 1) fu y t' o' (by omega) (by omega)
theorem V_bf9 {n : Nat} {x6 : Int64} (P0 : PG t 0 R h0) (hh : h0 ≤ 999) (hx : x2 = -4 ∨ ∃ j : Nat, j < 6 ∧ x2 = nI j) (hn : n ≤ 8) : ∀ (m q fu : Nat), q + m = n → m < fu → wp (M_byFuse_9 x1 x2 (nI n) x4 x5 x6 fu (p10 q) (nI q) t) (fun v => offM t v.2)
  | m, q, 0, hr, hf => absurd hf (by omega)
  | m, q, fu + 1, hr, hf => by
    rw [M_byFuse_9]
    have hp : 2 ^ n ≤ 256 := Nat.pow_le_pow_right (n := 2) (by decide) hn
    refine wi (fun c => ?_) (fun c => V_bf32 P0 hh (p10_ne q (by omega)) hx hn (2 ^ n) 0 FU x6 t offM.rf (by omega) (by show 2 ^ n < 100000; omega))
    rw [nI_ltI (by omega) (by omega)] at c
    obtain ⟨m, rfl⟩ : ∃ k, m = k + 1 := ⟨m - 1, by omega⟩
    rw [nI_add]
    exact V_bf9 P0 hh hx hn m (q + 1) fu (by omega) (by omega)
theorem V_byFuse {n : Nat} (P0 : PG t 0 R h0) (hh : h0 ≤ 999) (hx : x2 = -4 ∨ ∃ j : Nat, j < 6 ∧ x2 = nI j) (hn : n ≤ 8) : wp (M_byFuse x1 x2 (nI n) x4 x5 t) (fun v => offM t v.2) := by
  unfold M_byFuse
  exact V_bf9 P0 hh hx hn n 0 FU (by omega) (by show n < 100000; omega)
theorem V_M_luck (P : PG t 0 R h) (hh : h ≤ 999) : wp (M_luck x1 x2 x3 x4 x5 t) (fun v => offM t v.2) := by
  have h6 := P.2.1
  unfold M_luck
  refine wbB (V_inN (a := 0) (c := 10) rfl rfl (by decide) (by decide)) (ws offM.rf) (fun _ => wbB (V_isRoom P) (ws offM.rf) (fun q0 => wbB (V_inN (a := 0) (c := 8) rfl rfl (by decide) (by decide)) (ws offM.rf) (fun q => wbB (V_inN (a := 0) (c := 99) rfl rfl (by decide) (by decide)) (ws offM.rf) (fun _ => wbB (V_inN (a := 0) (c := 1) rfl rfl (by decide) (by decide)) (ws offM.rf) (fun _ => ?_)))))
  obtain ⟨j, hj, rfl⟩ := q0
  obtain ⟨N, -, hN, rfl⟩ := q
  exact wb (V_byFuse P hh (Or.inr ⟨j, by omega, rfl⟩) hN) (fun v o => ws o)
theorem V_M_mean (P : PG t 0 R h) (hh : h ≤ 999) : wp (M_mean x1 x2 x3 t) (fun v => offM t v.2) := by
  unfold M_mean
  refine wbB (V_inN (a := 0) (c := 10) rfl rfl (by decide) (by decide)) (ws offM.rf) (fun _ => wbB (V_inN (a := 0) (c := 8) rfl rfl (by decide) (by decide)) (ws offM.rf) (fun q => wbB (V_inN (a := 0) (c := 1) rfl rfl (by decide) (by decide)) (ws offM.rf) (fun _ => ?_)))
  obtain ⟨N, -, hN, rfl⟩ := q
  exact wb (V_byFuse P hh (Or.inl rfl) hN) (fun v o => ws o)
/-- what was felt -/
def SN (t : sg) : Prop := ∃ m : Nat, m ≤ 6 ∧ t 10 22 = nI m ∧ ∀ e : Nat, e < m → ∃ j : Nat, j < 6 ∧ t 17 (3 * e + 1) = nI j
def offN (w : Nat) (t t' : sg) : Prop := ∀ p k, ¬ (p = 11 ∧ (156 ≤ k ∨ k = w)) → p ≠ 16 → p ≠ 18 → ¬ (p = 10 ∧ (k = 19 ∨ k = 20)) → t' p k = t p k
theorem offN.rf {w : Nat} {t : sg} : offN w t t := fun _ _ _ _ _ _ => rfl
theorem offN.tr {w : Nat} {t t' t'' : sg} (h1 : offN w t t') (h2 : offN w t' t'') : offN w t t'' := fun p k a b c d => (h2 p k a b c d).trans (h1 p k a b c d)
theorem offM.n {w : Nat} {t t' : sg} (o : offM t t') : offN w t t' := fun p k a b c d => o p k (fun q => a ⟨q.1, Or.inl q.2⟩) b c d
theorem offN.u {w : Nat} {t : sg} {v : Int32} : offN w t (up t 11 w v) := fun p j a _ _ _ => if_neg (fun q => a ⟨q.1, Or.inr q.2⟩)
theorem SN.n {w : Nat} {t t' : sg} (S : SN t) (o : offN w t t') : SN t' := by
  obtain ⟨m, hm, e, S⟩ := S
  refine ⟨m, hm, (o 10 22 (by omega) (by decide) (by decide) (by omega)).trans e, fun i hi => ?_⟩
  rw [o 17 _ (by omega) (by decide) (by decide) (by omega)]
  exact S i hi
theorem PG.n {w : Nat} {t t' : sg} {R h : Nat} (P : PG t 0 R h) (o : offN w t t') (hw : w ≠ 49) : PG t' 0 R h := ⟨(o 10 1 (by omega) (by decide) (by decide) (by omega)).trans P.1, P.2.1, P.2.2.1, (o 11 _ (by omega) (by decide) (by decide) (by omega)).trans P.2.2.2⟩
theorem PG.u18 {t : sg} {g R h k : Nat} {v : Int32} (P : PG t g R h) : PG (up t 18 k v) g R h := ⟨(up_p (by decide)).trans P.1, P.2.1, P.2.2.1, (up_p (by decide)).trans P.2.2.2⟩
theorem V_as67 {k12 : Int32 → Int32 → sg → Option (Int32 × sg)} {y : Int32} (S : SN t) (P : PG t 208 R h) (o : offM t0 t) (hh : h < 2 ^ 29) (hk : ∀ b t', b = nI 0 ∨ b = nI 1 → offM t0 t' → PG t' 208 R (h + 1) → wp (k12 b (y + nI 1) t') (fun v => offM t0 v.2)) : ∀ (m q fu : Nat) (b : Int32), (b = nI 0 ∨ b = nI 1) → t 10 22 = nI (q + m) → q + m ≤ 6 → m < fu → wp (M_isAsSeen_67 k12 x1 y fu b (nI q) t) (fun v => offM t0 v.2)
  | m, q, 0, b, hb, e, hr, hf => absurd hf (by omega)
  | m, q, fu + 1, b, hb, e, hr, hf => by
    obtain ⟨m', hm', e', S'⟩ := S
    have em : m' = q + m := (nI_eq (by omega) (by omega)).mp (e'.symm.trans e)
    subst em
    rw [M_isAsSeen_67, e]
    refine wi (fun c => ?_) (fun _ => wb (V_goesOn P (by omega)) (fun t1 g1 => hk b t1 hb (o.tr (g1.2.m (by decide))) g1.1))
    rw [nI_ltI (by omega) (by omega)] at c
    obtain ⟨m, rfl⟩ : ∃ k, m = k + 1 := ⟨m - 1, by omega⟩
    have k : ∀ b : Int32, (b = nI 0 ∨ b = nI 1) → wp (M_isAsSeen_67 k12 x1 y fu b (nI q + nI 1) t) (fun v => offM t0 v.2) := fun b hb => by
      rw [nI_add]
      exact V_as67 ⟨_, hm', e', S'⟩ P o hh hk m (q + 1) fu b hb (by rw [e]; congr 1; omega) (by omega) (by omega)
    obtain ⟨j, hj, ej⟩ := S' q (by omega)
    have k127 : wp (M_isAsSeen_127 k12 (M_isAsSeen_67 k12 x1 y fu) x1 y (nI q) t) (fun v => offM t0 v.2) := k _ (Or.inr rfl)
    refine wi (fun _ => k _ (Or.inl rfl)) (fun _ => ?_)
    refine wm (pk_mul 3 q) (by omega) (by decide) (wi (fun _ => ?_) (fun _ => k127))
    refine wm (by rw [pk_mul, nI_add]) (show 3 * q + 1 < 18 by omega) (by decide) (wm (by rw [ej, nI_add]) (show 208 + j < 312 by omega) (by decide) ?_)
    exact wm (by rw [pk_mul, nI_add]) (show 3 * q + 2 < 18 by omega) (by decide) (wi (fun _ => k127) (fun _ => k _ (Or.inl rfl)))
theorem V_as21 {k12 : Int32 → Int32 → sg → Option (Int32 × sg)} {a y : Nat} {b : Int32} (S0 : SN t0) (hb : b = nI 0 ∨ b = nI 1) (ha : a < 10) (hy : y ≤ 20) (hh : h < 2 ^ 29) (hk : ∀ b t', b = nI 0 ∨ b = nI 1 → offM t0 t' → PG t' 208 R (h + 1) → wp (k12 b (nI y + nI 1) t') (fun v => offM t0 v.2)) : ∀ (m q fu : Nat) (t : sg), PG t 208 R h → offM t0 t → q + m = R → m < fu → wp (M_isAsSeen_21 k12 (nI a) b (nI y) fu (nI q) t) (fun v => offM t0 v.2)
  | m, q, 0, t, P, o, hr, hf => absurd hf (by omega)
  | m, q, fu + 1, t, P, o, hr, hf => by
    have h6 := P.2.1
    rw [M_isAsSeen_21, P.1]
    refine wi (fun c => ?_) (fun _ => ?_)
    · rw [nI_ltI (by omega) (by omega)] at c
      obtain ⟨m, rfl⟩ : ∃ k, m = k + 1 := ⟨m - 1, by omega⟩
      refine wm (nI_add 208 q) (by omega) (by decide) (wm (by rw [pk_mul, pk_mul, nI_add, nI_add]) (show 126 * a + 6 * y + q < 1260 by omega) (by decide) (wsb ?_))
      rw [nI_add]
      exact V_as21 S0 hb ha hy hh hk m (q + 1) fu _ P.u18 (o.tr offM.u18) (by omega) (by omega)
    · obtain ⟨m', hm', e', S'⟩ := S0.n (w := 0) o.n
      exact V_as67 ⟨m', hm', e', S'⟩ P o hh hk m' 0 FU b hb (by rw [e', Nat.zero_add]) (by omega) (by show m' < 100000; omega)
theorem V_as12 {a : Nat} (S0 : SN t0) (ha : a < 10) : ∀ (m q fu h : Nat) (b : Int32) (t : sg), (b = nI 0 ∨ b = nI 1) → PG t 208 R h → offM t0 t → h + m < 2 ^ 29 → q + m = 21 → m < fu → wp (M_isAsSeen_12 (nI a) fu b (nI q) t) (fun v => offM t0 v.2)
  | m, q, 0, h, b, t, hb, P, o, hh, hr, hf => absurd hf (by omega)
  | m, q, fu + 1, h, b, t, hb, P, o, hh, hr, hf => by
    rw [M_isAsSeen_12]
    refine wi (fun _ => wi (fun _ => ws o) (fun c => absurd hb c)) (fun c => ?_)
    rw [nI_ltI (by decide) (by omega)] at c
    obtain ⟨m, rfl⟩ : ∃ k, m = k + 1 := ⟨m - 1, by omega⟩
    refine V_as21 S0 hb ha (by omega) (by omega) (fun b' t' hb' o' P' => ?_) R 0 FU t P o (by omega) (by have := P.2.1; show R < 100000; omega)
    rw [nI_add]
    exact V_as12 S0 ha m (q + 1) fu (h + 1) b' t' hb' P' o' (by omega) (by omega) (by omega)
theorem V_isAsSeen {a : Nat} (S : SN t) (P : PG t 0 R h) (hh : h ≤ 999) (ha : a < 10) : wp (M_isAsSeen (nI a) t) (fun v => offM t v.2) := by
  unfold M_isAsSeen
  exact wb (V_copies (b := 208) P (by decide) (by decide) (by decide)) (fun t1 g1 => V_as12 S ha 21 0 FU h _ t1 (Or.inr rfl) g1.1 g1.2 (by omega) (by omega) (by decide))
theorem V_na14 {w N : Nat} (S0 : SN t0) (P0 : PG t0 0 R h) (hh : h ≤ 999) (hw : w ≠ 49) (hw2 : w < 52) (hN : N ≤ 10) : ∀ (m q fu : Nat) (x5 : Int32) (t : sg), offN w t0 t → q + m = N → m < fu → wp (M_numbersAt_14 (nI w) x2 (nI N) (t0 11 w) fu x5 (nI q) t) (fun v => offM t0 v.2)
  | m, q, 0, x5, t, o, hr, hf => absurd hf (by omega)
  | m, q, fu + 1, x5, t, o, hr, hf => by
    rw [M_numbersAt_14]
    refine wi (fun c => ?_) (fun _ => wm rfl (by omega) (by decide) (wsb (ws (fun p k a b c d => ?_))))
    · rw [nI_ltI (by omega) (by omega)] at c
      obtain ⟨m, rfl⟩ : ∃ k, m = k + 1 := ⟨m - 1, by omega⟩
      refine wm rfl (by omega) (by decide) (wsb ?_)
      have o1 : offN w t0 (up t 11 w (x2 + nI q)) := o.tr offN.u
      refine wb (V_isAsSeen (S0.n o1) (P0.n o1 hw) hh (by omega)) (fun v hv => ?_)
      have o2 := o1.tr (offM.n hv)
      simp only [nI_add]
      exact wi (fun _ => V_na14 S0 P0 hh hw hw2 hN m (q + 1) fu _ v.2 o2 (by omega) (by omega)) (fun _ => V_na14 S0 P0 hh hw hw2 hN m (q + 1) fu _ v.2 o2 (by omega) (by omega))
    · show up t 11 w (t0 11 w) p k = t0 p k
      by_cases e : p = 11 ∧ k = w
      · rw [e.1, e.2, up_eq]
      · rw [up, if_neg e]
        exact o p k (fun z => z.2.elim (fun z2 => a ⟨z.1, z2⟩) (fun z2 => e ⟨z.1, z2⟩)) b c d
theorem V_numbersAt {w N : Nat} (S : SN t) (P : PG t 0 R h) (hh : h ≤ 999) (hw : w ≠ 49) (hw2 : w < 52) (hN : N ≤ 10) : wp (M_numbersAt (nI w) x2 (nI N) t) (fun v => offM t v.2) := by
  unfold M_numbersAt
  exact wm rfl (by omega) (by decide) (V_na14 S P hh hw hw2 hN N 0 FU _ t offN.rf (by omega) (by show N < 100000; omega))
theorem V_M_kinds (S : SN t) (P : PG t 0 R h) (hh : h ≤ 999) : wp (M_kinds x1 t) (fun v => offM t v.2) := by
  have h6 := P.2.1
  unfold M_kinds
  refine wbB (V_isRoom P) (ws offM.rf) (fun q0 => ?_)
  obtain ⟨j, hj, rfl⟩ := q0
  refine wbB (V_hasTongue (by omega)) (ws offM.rf) (fun _ => ?_)
  rw [nI_add]
  exact wb (V_numbersAt S P hh (by omega) (by omega) (by decide)) (fun v o => ws o)
theorem V_M_lets (S : SN t) (P : PG t 0 R h) (hh : h ≤ 999) : wp (M_lets x1 t) (fun v => offM t v.2) := by
  have h6 := P.2.1
  unfold M_lets
  refine wbB (V_isWall P) (ws offM.rf) (fun q0 => ?_)
  obtain ⟨j, hj, rfl⟩ := q0
  rw [nI_add]
  exact wb (V_numbersAt S P hh (by omega) (by omega) (by decide)) (fun v o => ws o)
theorem V_wo18 {k5 : Int32 → Int32 → Option Int32} {a z : Nat} (ha : a < 10) (hz : z < 126) (hk : ∀ y, wp (k5 y (nI a + nI 1)) (fun _ => True)) : ∀ (m q fu : Nat) (x5 : Int32), q + m = 10 → m < fu → wp (M_worstAt_18 k5 x1 (nI z) x3 (nI a) t fu x5 (nI q)) (fun _ => True)
  | m, q, 0, x5, hr, hf => absurd hf (by omega)
  | m, q, fu + 1, x5, hr, hf => by
    rw [M_worstAt_18]
    have w88 : ∀ y : Int32, wp (M_worstAt_88 k5 x1 (nI z) x3 (nI a) y t) (fun _ => True) := fun y => by
      unfold M_worstAt_88
      exact wi (fun _ => hk _) (fun _ => hk _)
    refine wi (fun _ => w88 _) (fun c => ?_)
    rw [nI_ltI (by decide) (by omega)] at c
    obtain ⟨m, rfl⟩ : ∃ k, m = k + 1 := ⟨m - 1, by omega⟩
    have k : ∀ y : Int32, wp (M_worstAt_18 k5 x1 (nI z) x3 (nI a) t fu y (nI q + nI 1)) (fun _ => True) := fun y => by
      rw [nI_add]; exact V_wo18 ha hz hk m (q + 1) fu y (by omega) (by omega)
    exact wi (fun _ => wi (fun _ => wm (by rw [pk_mul, nI_add]) (show 126 * a + z < 1260 by omega) (by decide) (wm (by rw [pk_mul, nI_add]) (show 126 * q + z < 1260 by omega) (by decide) (wi (fun _ => k _) (fun _ => k _)))) (fun _ => k _)) (fun _ => w88 _)
theorem V_wo5 {z : Nat} (hz : z < 126) : ∀ (m q fu : Nat) (x3 : Int32), q + m = 10 → m < fu → wp (M_worstAt_5 x1 (nI z) t fu x3 (nI q)) (fun _ => True)
  | m, q, 0, x3, hr, hf => absurd hf (by omega)
  | m, q, fu + 1, x3, hr, hf => by
    rw [M_worstAt_5]
    refine wi (fun _ => ws trivial) (fun c => ?_)
    rw [nI_ltI (by decide) (by omega)] at c
    obtain ⟨m, rfl⟩ : ∃ k, m = k + 1 := ⟨m - 1, by omega⟩
    refine V_wo18 (by omega) hz (fun y => ?_) 10 0 FU _ (by omega) (by decide)
    rw [nI_add]
    exact V_wo5 hz m (q + 1) fu y (by omega) (by omega)
theorem V_worstAt {z : Nat} (hz : z < 126) : wp (M_worstAt x1 (nI z) t) (fun _ => True) := by
  unfold M_worstAt
  exact V_wo5 hz 10 0 FU _ (by omega) (by decide)
theorem V_ask80 {k70 : Int32 → Int32 → Int32 → sg → Option (Int32 × sg)} {a : Nat} (P : PG t 0 R h) (ha : a ≤ 20) (hk : ∀ y4 y5, wp (k70 y4 y5 (nI a + nI 1) t) (fun v => offM t0 v.2)) : ∀ (m q fu : Nat) (x4 x5 : Int32), q + m = R → m < fu → wp (M_ask_80 k70 x2 x3 (nI a) fu x4 x5 (nI q) t) (fun v => offM t0 v.2)
  | m, q, 0, x4, x5, hr, hf => absurd hf (by omega)
  | m, q, fu + 1, x4, x5, hr, hf => by
    have h6 := P.2.1
    rw [M_ask_80, P.1]
    refine wi (fun c => ?_) (fun _ => hk _ _)
    rw [nI_ltI (by omega) (by omega)] at c
    obtain ⟨m, rfl⟩ : ∃ k, m = k + 1 := ⟨m - 1, by omega⟩
    have k : ∀ y4 y5 : Int32, wp (M_ask_80 k70 x2 x3 (nI a) fu y4 y5 (nI q + nI 1) t) (fun v => offM t0 v.2) := fun y4 y5 => by
      rw [nI_add]; exact V_ask80 P ha hk m (q + 1) fu y4 y5 (by omega) (by omega)
    unfold M_ask_124
    rw [pk_mul 6 a, nI_add]
    exact wb (V_worstAt (by omega)) (fun v _ => wi (fun _ => wi (fun _ => k _ _) (fun _ => k _ _)) (fun _ => wi (fun _ => k _ _) (fun _ => k _ _)))
theorem V_ask70 (P : PG t 0 R h) (o : offM t0 t) : ∀ (m q fu : Nat) (x4 x5 : Int32), q + m = 21 → m < fu → wp (M_ask_70 x2 x3 fu x4 x5 (nI q) t) (fun v => offM t0 v.2)
  | m, q, 0, x4, x5, hr, hf => absurd hf (by omega)
  | m, q, fu + 1, x4, x5, hr, hf => by
    rw [M_ask_70]
    refine wi (fun _ => wi (fun _ => ws o) (fun _ => wi (fun _ => ws o) (fun _ => ws o))) (fun c => ?_)
    rw [nI_ltI (by decide) (by omega)] at c
    obtain ⟨m, rfl⟩ : ∃ k, m = k + 1 := ⟨m - 1, by omega⟩
    refine V_ask80 P (by omega) (fun y4 y5 => ?_) R 0 FU x4 x5 (by omega) (by have := P.2.1; show R < 100000; omega)
    rw [nI_add]
    exact V_ask70 P o m (q + 1) fu y4 y5 (by omega) (by omega)
theorem V_ask39 (P : PG t 0 R h) (o : offM t0 t) : ∀ (m q fu : Nat) (x4 : Int32), q + m = 10 → m < fu → wp (M_ask_39 x2 x3 fu x4 (nI q) t) (fun v => offM t0 v.2)
  | m, q, 0, x4, hr, hf => absurd hf (by omega)
  | m, q, fu + 1, x4, hr, hf => by
    rw [M_ask_39]
    refine wi (fun _ => V_ask70 P o 21 0 FU _ _ (by omega) (by decide)) (fun c => ?_)
    rw [nI_ltI (by decide) (by omega)] at c
    obtain ⟨m, rfl⟩ : ∃ k, m = k + 1 := ⟨m - 1, by omega⟩
    rw [nI_add]
    exact V_ask39 P o m (q + 1) fu _ (by omega) (by omega)
theorem V_M_ask (S : SN t) (P : PG t 0 R h) (hh : h ≤ 999) : wp (M_ask x1 x2 t) (fun v => offM t v.2) := by
  have h6 := P.2.1
  unfold M_ask
  refine wbB (V_isWall P) (ws offM.rf) (fun q0 => wbB (V_inN (a := 0) (c := 1) rfl rfl (by decide) (by decide)) (ws offM.rf) (fun _ => ?_))
  obtain ⟨j, hj, rfl⟩ := q0
  rw [nI_add]
  exact wb (V_numbersAt S P hh (by omega) (by omega) (by decide)) (fun v o => V_ask39 (P.m o (by decide)) o 10 0 FU _ (by omega) (by decide))
end MF
end Q53
section Q54
/-! the reference's text -/
def EN (t : sg) : Prop := ∃ E : Nat → Nat, (∀ j, j ≤ 7 → t 14 j = nI (E j)) ∧ ∀ j, j < 7 → E j ≤ E (j + 1) ∧ E (j + 1) ≤ 29
def TX (t : sg) (L p b rr : Nat) : Prop := t 10 8 = nI L ∧ L ≤ 160 ∧ t 10 12 = nI p ∧ p ≤ L ∧ t 10 10 = nI b ∧ b ≤ 6 ∧ t 10 3 = nI rr ∧ rr ≤ 6 ∧ t 12 49 = nI 0 ∧ EN t
theorem TX.l {t : sg} {L p b rr : Nat} (X : TX t L p b rr) : t 10 8 = nI L := X.1
theorem TX.l2 {t : sg} {L p b rr : Nat} (X : TX t L p b rr) : L ≤ 160 := X.2.1
theorem TX.p {t : sg} {L p b rr : Nat} (X : TX t L p b rr) : t 10 12 = nI p := X.2.2.1
theorem TX.p2 {t : sg} {L p b rr : Nat} (X : TX t L p b rr) : p ≤ L := X.2.2.2.1
theorem TX.b {t : sg} {L p b rr : Nat} (X : TX t L p b rr) : t 10 10 = nI b := X.2.2.2.2.1
theorem TX.b2 {t : sg} {L p b rr : Nat} (X : TX t L p b rr) : b ≤ 6 := X.2.2.2.2.2.1
theorem TX.r {t : sg} {L p b rr : Nat} (X : TX t L p b rr) : t 10 3 = nI rr := X.2.2.2.2.2.2.1
theorem TX.r2 {t : sg} {L p b rr : Nat} (X : TX t L p b rr) : rr ≤ 6 := X.2.2.2.2.2.2.2.1
theorem TX.h {t : sg} {L p b rr : Nat} (X : TX t L p b rr) : t 12 49 = nI 0 := X.2.2.2.2.2.2.2.2.1
theorem TX.e {t : sg} {L p b rr : Nat} (X : TX t L p b rr) : EN t := X.2.2.2.2.2.2.2.2.2
def FR (t : sg) (p : Nat) : Prop := ∃ f : Nat, f ≤ p ∧ t 10 13 = nI f
def offK (t t' : sg) : Prop := ∀ p k, ¬ (p = 10 ∧ 10 ≤ k ∧ k ≤ 15) → t' p k = t p k
theorem offK.rf {t : sg} : offK t t := fun _ _ _ => rfl
theorem offK.tr {t t' t'' : sg} (h1 : offK t t') (h2 : offK t' t'') : offK t t'' := fun p k a => (h2 p k a).trans (h1 p k a)
theorem offK.u {t : sg} {k : Nat} {v : Int32} (hk : 10 ≤ k ∧ k ≤ 15) : offK t (up t 10 k v) := fun p j a => if_neg (fun w => a ⟨w.1, by omega, by omega⟩)
theorem EN.k {t t' : sg} (E : EN t) (h : t' 14 = t 14) : EN t' := by
  obtain ⟨e, h1, h2⟩ := E
  exact ⟨e, fun j hj => by rw [h]; exact h1 j hj, h2⟩
theorem TX.keep {t t' : sg} {L p b rr : Nat} (X : TX t L p b rr) (h1 : t' 10 8 = t 10 8) (h2 : t' 10 12 = t 10 12) (h3 : t' 10 10 = t 10 10) (h4 : t' 10 3 = t 10 3) (h5 : t' 12 49 = t 12 49) (h6 : t' 14 = t 14) : TX t' L p b rr :=
  ⟨h1.trans X.l, X.l2, h2.trans X.p, X.p2, h3.trans X.b, X.b2, h4.trans X.r, X.r2, h5.trans X.h, X.e.k h6⟩
theorem up14 {t : sg} {q k : Nat} {v : Int32} (h : q ≠ 14) : up t q k v 14 = t 14 := by
  funext j; exact up_p (Ne.symm h)
theorem TX.u {t : sg} {L p b rr k : Nat} {v : Int32} (X : TX t L p b rr) (hk : k ≠ 8 ∧ k ≠ 12 ∧ k ≠ 10 ∧ k ≠ 3) : TX (up t 10 k v) L p b rr :=
  X.keep (up_k (by omega)) (up_k (by omega)) (up_k (by omega)) (up_k (by omega)) (up_p (by decide)) (up14 (by decide))
theorem TX.ur {t : sg} {L p b rr k : Nat} {v : Int32} (X : TX t L p b rr) (hk : k ≠ 49) : TX (up t 12 k v) L p b rr :=
  X.keep (up_p (by decide)) (up_p (by decide)) (up_p (by decide)) (up_p (by decide)) (up_k (by omega)) (up14 (by decide))
theorem TX.u12 {t : sg} {L p b rr q : Nat} (X : TX t L p b rr) (hq : q ≤ L) : TX (up t 10 12 (nI q)) L q b rr :=
  ⟨(up_k (by decide)).trans X.l, X.l2, up_eq, hq, (up_k (by decide)).trans X.b, X.b2, (up_k (by decide)).trans X.r, X.r2, (up_p (by decide)).trans X.h, X.e.k (up14 (by decide))⟩
theorem TX.u10 {t : sg} {L p b rr q : Nat} (X : TX t L p b rr) (hq : q ≤ 6) : TX (up t 10 10 (nI q)) L p q rr :=
  ⟨(up_k (by decide)).trans X.l, X.l2, (up_k (by decide)).trans X.p, X.p2, up_eq, hq, (up_k (by decide)).trans X.r, X.r2, (up_p (by decide)).trans X.h, X.e.k (up14 (by decide))⟩
theorem TX.u3 {t : sg} {L p b rr q : Nat} (X : TX t L p b rr) (hq : q ≤ 6) : TX (up t 10 3 (nI q)) L p b q :=
  ⟨(up_k (by decide)).trans X.l, X.l2, (up_k (by decide)).trans X.p, X.p2, (up_k (by decide)).trans X.b, X.b2, up_eq, hq, (up_p (by decide)).trans X.h, X.e.k (up14 (by decide))⟩
def bt (t : sg) (L q : Nat) : Int32 := if q < L then t 13 q else (-4)
section MT
variable {t t0 : sg} {L p b rr : Nat} {x x1 x2 x3 x4 x5 : Int32}
theorem byteAt_eq {q : Nat} (X : TX t L p b rr) (hq : q < 2 ^ 30) : M_byteAt (nI q) t = some (bt t L q) := by
  have h2 := X.l2
  unfold M_byteAt bt
  rw [X.l]
  by_cases c : q < L
  · rw [if_pos (by rw [nI_ltI (by omega) (by omega)]; exact c), if_pos c, midx_nI (by omega) (by decide)]; rfl
  · rw [if_neg (by rw [nI_ltI (by omega) (by omega)]; exact c), if_neg c]
theorem in_eq {lo hi : Int32} {l u : Int64} (hl : l = lo.toInt64) (hu : u = hi.toInt64) : M_in x.toInt64 l u t = some (if x < lo then nI 0 else if hi < x then nI 0 else nI 1) := by
  subst hl; subst hu
  unfold M_in
  by_cases c : x < lo
  · rw [if_pos ((l64s _ _).mpr c), if_pos c]
  · rw [if_neg (fun q => c ((l64s _ _).mp q)), if_neg c]
    by_cases d : hi < x
    · rw [if_pos ((l64s _ _).mpr d), if_pos d]
    · rw [if_neg (fun q => d ((l64s _ _).mp q)), if_neg d]
theorem wIn {α : Type} {lo hi : Int32} {l u : Int64} {A B : Option α} {Q : α → Prop} (hl : l = lo.toInt64) (hu : u = hi.toInt64) (h0 : ¬ (¬ x < lo ∧ ¬ hi < x) → wp A Q) (h1 : ¬ x < lo → ¬ hi < x → wp B Q) : wp ((M_in x.toInt64 l u t).bind fun v => if v = 0 then A else B) Q := by
  rw [in_eq hl hu]
  by_cases c : x < lo
  · rw [if_pos c]; exact h0 (fun q => q.1 c)
  · rw [if_neg c]
    by_cases d : hi < x
    · rw [if_pos d]; exact h0 (fun q => q.2 d)
    · rw [if_neg d]; exact h1 c d
theorem V_fails {c : Nat} (X : TX t L p b rr) (hc : 1 ≤ c ∧ c ≤ 6) : wp (M_fails (nI c) t) (fun t' => (∃ b', TX t' L p b' rr ∧ b' ≠ 0) ∧ offK t t') := by
  have h2 := X.b2
  unfold M_fails
  rw [X.b]
  refine wi (fun _ => wsb (wsb (ws ⟨⟨c, (X.u10 (by omega)).u (by decide), by omega⟩, (offK.u (by decide)).tr (offK.u (by decide))⟩))) (fun q => ws ⟨⟨b, X, fun e => q (by rw [e]; rfl)⟩, offK.rf⟩)
theorem bt_lt {q : Nat} (h : ¬ bt t L q = -4) : q < L := by
  unfold bt at h
  by_cases c : q < L
  · exact c
  · rw [if_neg c] at h; exact absurd rfl h
/-- after a step -/
def SQ (t : sg) (L p b rr : Nat) (t' : sg) : Prop := ∃ p' b', TX t' L p' b' rr ∧ p ≤ p' ∧ (b' = 0 → b = 0 ∧ FR t' p' ∧ (t' 10 14 = nI 0 ∨ p < p')) ∧ offK t t'
theorem V_st84 {f : Nat} (hf0 : f ≤ p) : ∀ (n q fu : Nat) (t : sg), offK t0 t → TX t L q b rr → t 10 13 = nI f → p ≤ q → (p < q ∨ (¬ bt t L q < nI 97 ∧ ¬ nI 122 < bt t L q)) → q + n = L → n < fu → b = 0 → wp (M_step_84 fu t) (SQ t0 L p 0 rr)
  | n, q, 0, t, o, X, F, hp, hd, hr, hf, hb => absurd hf (by omega)
  | n, q, fu + 1, t, o, X, F, hp, hd, hr, hf, hb => by
    have h2 := X.l2
    rw [M_step_84, X.p, byteAt_eq X (by omega)]
    refine wsb (wIn (lo := nI 97) (hi := nI 122) rfl rfl (fun c => wsb (ws ?_)) (fun c1 c2 => ?_))
    · subst hb
      exact ⟨q, 0, X.u (by decide), hp, fun _ => ⟨rfl, ⟨f, by omega, (up_k (by decide)).trans F⟩, Or.inr (hd.resolve_right c)⟩, o.tr (offK.u (by decide))⟩
    · have hq : q < L := bt_lt (fun e => by rw [e] at c1; exact absurd c1 (by decide))
      obtain ⟨n, rfl⟩ : ∃ k, n = k + 1 := ⟨n - 1, by omega⟩
      rw [nI_add]
      exact wsb (V_st84 hf0 n (q + 1) fu _ (o.tr (offK.u (by decide))) (X.u12 (by omega)) ((up_k (by decide)).trans F) (by omega) (Or.inl (by omega)) (by omega) (by omega) hb)
theorem V_st140 {f : Nat} (hf0 : f ≤ p) : ∀ (n q fu : Nat) (t : sg), offK t0 t → TX t L q b rr → t 10 13 = nI f → p ≤ q → (p < q ∨ (¬ bt t L q < nI 48 ∧ ¬ nI 57 < bt t L q)) → q + n = L → n < fu → b = 0 → wp (M_step_140 fu t) (SQ t0 L p 0 rr)
  | n, q, 0, t, o, X, F, hp, hd, hr, hf, hb => absurd hf (by omega)
  | n, q, fu + 1, t, o, X, F, hp, hd, hr, hf, hb => by
    have h2 := X.l2
    rw [M_step_140, X.p, byteAt_eq X (by omega)]
    refine wsb (wIn (lo := nI 48) (hi := nI 57) rfl rfl (fun c => wsb ?_) (fun c1 c2 => ?_))
    · subst hb
      have X1 : TX (up t 10 14 (nI 2)) L q 0 rr := X.u (by decide)
      refine wi (fun _ => wb (V_fails X1 (by decide)) (fun t1 g1 => ws ?_)) (fun _ => ws ?_)
      · obtain ⟨⟨b', X', hb'⟩, o'⟩ := g1
        exact ⟨q, b', X', hp, fun e => absurd e hb', (o.tr (offK.u (by decide))).tr o'⟩
      · exact ⟨q, 0, X1, hp, fun _ => ⟨rfl, ⟨f, by omega, (up_k (by decide)).trans F⟩, Or.inr (hd.resolve_right c)⟩, o.tr (offK.u (by decide))⟩
    · have hq : q < L := bt_lt (fun e => by rw [e] at c1; exact absurd c1 (by decide))
      obtain ⟨n, rfl⟩ : ∃ k, n = k + 1 := ⟨n - 1, by omega⟩
      have w : ∀ y : Int32, wp (M_step_201 (M_step_140 fu) y t) (SQ t0 L p 0 rr) := fun y => by
        unfold M_step_201
        refine wsb (wsb ?_)
        rw [up_k (by decide), X.p, nI_add]
        exact V_st140 hf0 n (q + 1) fu _ ((o.tr (offK.u (by decide))).tr (offK.u (by decide))) ((X.u (by decide)).u12 (by omega)) ((up_k (by decide)).trans ((up_k (by decide)).trans F)) (by omega) (Or.inl (by omega)) (by omega) (by omega) hb
      exact wi (fun _ => wsb (w _)) (fun _ => w _)
theorem bt_up {q k : Nat} {v : Int32} : bt (up t 10 k v) L q = bt t L q := by
  unfold bt; rw [up_p (by decide)]
theorem V_st8 : ∀ (n q fu : Nat) (t : sg), offK t0 t → TX t L q b rr → p ≤ q → q + n = L → n < fu → b = 0 → wp (M_step_8 fu t) (SQ t0 L p 0 rr)
  | n, q, 0, t, o, X, hp, hr, hf, hb => absurd hf (by omega)
  | n, q, fu + 1, t, o, X, hp, hr, hf, hb => by
    have h2 := X.l2
    rw [M_step_8, X.p, byteAt_eq X (by omega)]
    refine wsb (wi (fun c => ?_) (fun c => wsb ?_))
    · have hq : q < L := bt_lt (fun e => by rw [e] at c; exact absurd c (by decide))
      obtain ⟨n, rfl⟩ : ∃ k, n = k + 1 := ⟨n - 1, by omega⟩
      rw [nI_add]
      exact wsb (V_st8 n (q + 1) fu _ (o.tr (offK.u (by decide))) (X.u12 (by omega)) (by omega) (by omega) (by omega) hb)
    · have X1 : TX (up t 10 13 (nI q)) L q b rr := X.u (by decide)
      rw [X1.p, byteAt_eq X1 (by omega), bt_up]
      refine wsb (wsb ?_)
      have X2 : TX (up (up t 10 13 (nI q)) 10 15 (nI 0)) L q b rr := X1.u (by decide)
      have o2 : offK t0 (up (up t 10 13 (nI q)) 10 15 (nI 0)) := (o.tr (offK.u (by decide))).tr (offK.u (by decide))
      have F2 : (up (up t 10 13 (nI q)) 10 15 (nI 0)) 10 13 = nI q := (up_k (by decide)).trans up_eq
      have B2 : bt (up (up t 10 13 (nI q)) 10 15 (nI 0)) L q = bt t L q := bt_up.trans bt_up
      refine wi (fun _ => wsb (ws ?_)) (fun c4 => ?_)
      · subst hb
        exact ⟨q, 0, X2.u (by decide), hp, fun _ => ⟨rfl, ⟨q, by omega, (up_k (by decide)).trans F2⟩, Or.inl up_eq⟩, o2.tr (offK.u (by decide))⟩
      · have hq : q < L := bt_lt c4
        have lift : ∀ o : Option sg, wp o (SQ t0 L q 0 rr) → wp o (SQ t0 L p 0 rr) := fun o h => wc h (fun t' h' => by
          obtain ⟨p', b', X', hp', hb', o'⟩ := h'
          exact ⟨p', b', X', by omega, fun e => ⟨(hb' e).1, (hb' e).2.1, (hb' e).2.2.imp (fun z => z) (fun z => by omega)⟩, o'⟩)
        refine wIn (lo := nI 97) (hi := nI 122) rfl rfl (fun _ => wIn (lo := nI 48) (hi := nI 57) rfl rfl (fun _ => wsb (wsb ?_)) (fun c5 c6 => ?_)) (fun c5 c6 => ?_)
        · rw [up_k (by decide), X2.p, nI_add]
          have X4 : TX (up (up (up (up t 10 13 (nI q)) 10 15 (nI 0)) 10 14 (nI 3)) 10 12 (nI (q + 1))) L (q + 1) b rr := (X2.u (by decide)).u12 (by omega)
          have o4 : offK t0 (up (up (up (up t 10 13 (nI q)) 10 15 (nI 0)) 10 14 (nI 3)) 10 12 (nI (q + 1))) := (o2.tr (offK.u (by decide))).tr (offK.u (by decide))
          refine wi (fun _ => ws ?_) (fun _ => wb (V_fails X4 (by decide)) (fun t5 g5 => ws ?_))
          · subst hb
            exact ⟨q + 1, 0, X4, by omega, fun _ => ⟨rfl, ⟨q, by omega, (up_k (by decide)).trans ((up_k (by decide)).trans F2)⟩, Or.inr (by omega)⟩, o4⟩
          · obtain ⟨⟨b', X', hb'⟩, o'⟩ := g5
            exact ⟨q + 1, b', X', by omega, fun e => absurd e hb', o4.tr o'⟩
        · exact lift _ (V_st140 (Nat.le_refl q) (L - q) q FU _ o2 X2 F2 (Nat.le_refl q) (Or.inr (by rw [B2]; exact ⟨c5, c6⟩)) (by omega) (by show L - q < 100000; omega) hb)
        · exact lift _ (V_st84 (Nat.le_refl q) (L - q) q FU _ o2 X2 F2 (Nat.le_refl q) (Or.inr (by rw [B2]; exact ⟨c5, c6⟩)) (by omega) (by show L - q < 100000; omega) hb)
theorem V_step (X : TX t L p b rr) : wp (M_step t) (SQ t L p b rr) := by
  have h2 := X.l2
  have hb := X.b2
  have hp := X.p2
  unfold M_step
  rw [X.b]
  refine wi (fun c => ws ⟨p, b, X, Nat.le_refl p, fun e => ?_, offK.rf⟩) (fun c => ?_)
  · rw [e] at c; exact absurd c (by decide)
  · have e0 : b = 0 := by
      rcases Nat.eq_zero_or_pos b with e | e
      · exact e
      · exact absurd ((nI_ltI (a := 0) (by decide) (by omega)).mpr e) c
    subst e0
    exact V_st8 (L - p) p FU t offK.rf X (Nat.le_refl p) (by omega) (by show L - p < 100000; omega) rfl
/-- after a number -/
def SR (t : sg) (L p b rr : Nat) (t' : sg) : Prop := ∃ p' b', TX t' L p' b' rr ∧ p ≤ p' ∧ (b' = 0 → b = 0) ∧ offK t t'
theorem SQ.r {t' : sg} (h : SQ t L p b rr t') : SR t L p b rr t' := by
  obtain ⟨p', b', X, hp, hb, o⟩ := h
  exact ⟨p', b', X, hp, fun e => (hb e).1, o⟩
theorem V_n62 {y : Int32} {P : Int32 → Prop} {b0 : Nat} (X : TX t L p b rr) (o : offK t0 t) (hb : b = 0 → b0 = 0) (hy : P y) : wp (M_number_62 y t) (fun v => P v.1 ∧ SR t0 L p b0 rr v.2) := by
  unfold M_number_62
  refine wb (V_step X) (fun t1 h1 => ws ⟨hy, ?_⟩)
  obtain ⟨p', b', X', hp, hb', o'⟩ := h1
  exact ⟨p', b', X', hp, fun e => hb (hb' e).1, o.tr o'⟩
theorem V_n20 {lo hi b0 : Nat} (X : TX t L p b rr) (o : offK t0 t) (hb : b = 0 → b0 = 0) (hl : lo ≤ hi) (hh : hi < 1000) : wp (M_number_20 (nI lo) (nI hi) t) (fun v => (∃ w, lo ≤ w ∧ w ≤ hi ∧ v.1 = nI w) ∧ SR t0 L p b0 rr v.2) := by
  unfold M_number_20
  have w0 : ∀ {t' : sg} {b' : Nat}, TX t' L p b' rr → offK t0 t' → (b' = 0 → b0 = 0) → b' ≠ 0 → wp (M_number_47 (nI lo) t') (fun v => (∃ w, lo ≤ w ∧ w ≤ hi ∧ v.1 = nI w) ∧ SR t0 L p b0 rr v.2) := fun {t' b'} X' o' hb' hz => by
    have := X'.b2
    unfold M_number_47
    rw [X'.b]
    refine wi (fun c => absurd ((nI_eq (by omega) (by decide)).mp c) hz) (fun _ => V_n62 (P := fun y => ∃ w, lo ≤ w ∧ w ≤ hi ∧ y = nI w) X' o' hb' ⟨lo, Nat.le_refl _, hl, rfl⟩)
  have hb2 := X.b2
  rw [X.b]
  refine wi (fun c => wIn (lo := nI lo) (hi := nI hi) rfl rfl (fun _ => wb (V_fails X (by decide)) (fun t1 g1 => ?_)) (fun c1 c2 => ?_)) (fun c => ?_)
  · obtain ⟨⟨b', X', hb'⟩, o'⟩ := g1
    exact w0 X' (o.tr o') (fun e => absurd e hb') hb'
  · unfold M_number_47
    rw [X.b, if_pos c]
    obtain ⟨w, h1, h2, e⟩ := in_nI (by omega) ⟨c1, c2⟩ (by omega)
    exact V_n62 (P := fun y => ∃ w, lo ≤ w ∧ w ≤ hi ∧ y = nI w) X o hb ⟨w, h1, h2, e⟩
  · exact w0 X o hb (fun e => c (by rw [e]; rfl))
theorem V_number {lo hi : Nat} (X : TX t L p b rr) (hl : lo ≤ hi) (hh : hi < 1000) : wp (M_number (nI lo) (nI hi) t) (fun v => (∃ w, lo ≤ w ∧ w ≤ hi ∧ v.1 = nI w) ∧ SR t L p b rr v.2) := by
  unfold M_number
  refine wi (fun _ => wi (fun _ => V_n20 X offK.rf id hl hh) (fun _ => wb (V_fails X (by decide)) (fun t1 g1 => ?_))) (fun _ => V_n20 X offK.rf id hl hh)
  obtain ⟨⟨b', X', hb'⟩, o'⟩ := g1
  exact V_n20 X' o' (fun e => absurd e hb') hl hh
/-- off the reader's cells -/
def offLn (t t' : sg) : Prop := ∀ p k, ¬ (p = 10 ∧ ((3 ≤ k ∧ k ≤ 6) ∨ (10 ≤ k ∧ k ≤ 15))) → p ≠ 12 → t' p k = t p k
theorem offLn.rf {t : sg} : offLn t t := fun _ _ _ _ => rfl
theorem offLn.tr {t t' t'' : sg} (h1 : offLn t t') (h2 : offLn t' t'') : offLn t t'' := fun p k a b => (h2 p k a b).trans (h1 p k a b)
theorem offK.l {t t' : sg} (o : offK t t') : offLn t t' := fun p k a _ => o p k (fun w => a ⟨w.1, Or.inr w.2⟩)
theorem offLn.u {t : sg} {k : Nat} {v : Int32} (hk : 3 ≤ k ∧ k ≤ 6) : offLn t (up t 10 k v) := fun p j a _ => if_neg (fun w => a ⟨w.1, Or.inl (by omega)⟩)
theorem offLn.ur {t : sg} {k : Nat} {v : Int32} : offLn t (up t 12 k v) := fun p j _ c => if_neg (fun w => c w.1)
/-- after what a line holds -/
def SL (t : sg) (L p b : Nat) (t' : sg) : Prop := ∃ p' b' rr', TX t' L p' b' rr' ∧ p ≤ p' ∧ (b' = 0 → b = 0) ∧ offLn t t'
theorem V_rt50 {b0 : Nat} (X : TX t L p b rr) (o : offLn t0 t) (hb : b = 0 → b0 = 0) : wp (M_readTongue_50 x1 t) (SL t0 L p b0) := by
  unfold M_readTongue_50
  refine wb (V_number X (by decide) (by decide)) (fun v h => ?_)
  obtain ⟨⟨w, -, hw, e⟩, p', b', X', hp, hb', o'⟩ := h
  have k : ∀ y : Int32, wp (M_readTongue_74 x1 v.1 y v.2) (SL t0 L p b0) := fun y => by
    unfold M_readTongue_74
    rw [e, nI_add, nI_add]
    refine wsb (wm rfl (by omega) (by decide) (wsb ?_))
    have X2 : TX (up (up v.2 10 6 y) 12 (18 + w) (x1 + nI 1)) L p' b' rr := (X'.u (by decide)).ur (by omega)
    refine wb (V_number X2 (by decide) (by decide)) (fun v2 h2 => wm rfl (by omega) (by decide) (wsb (ws ?_)))
    obtain ⟨-, p2, b2, X3, hp2, hb2, o3⟩ := h2
    exact ⟨p2, b2, rr, X3.ur (by omega), by omega, fun e => hb (hb' (hb2 e)), (((((o.tr o'.l).tr (offLn.u (by decide))).tr offLn.ur).tr o3.l)).tr offLn.ur⟩
  exact wi (fun _ => k _) (fun _ => k _)
theorem V_readTongue (X : TX t L p b rr) : wp (M_readTongue x1 t) (SL t L p b) := by
  unfold M_readTongue
  have k := V_rt50 (x1 := x1) X offLn.rf id
  refine wi (fun _ => wi (fun _ => wIn (lo := nI 0) (hi := nI 5) rfl rfl (fun _ => k) (fun c1 c2 => ?_)) (fun _ => k)) (fun _ => k)
  obtain ⟨w, -, hw, e⟩ := in_nI (by decide) ⟨c1, c2⟩ (by decide)
  rw [e]
  refine wm (nI_add 18 w) (by omega) (by decide) (wi (fun _ => wb (V_fails X (by decide)) (fun t1 g1 => ?_)) (fun _ => k))
  obtain ⟨⟨b', X', hb'⟩, o'⟩ := g1
  exact V_rt50 X' o'.l (fun e => absurd e hb')
theorem V_rw50 {b0 : Nat} (X : TX t L p b rr) (o : offLn t0 t) (hb : b = 0 → b0 = 0) : wp (M_readWall_50 t) (SL t0 L p b0) := by
  unfold M_readWall_50
  refine wb (V_number X (by decide) (by decide)) (fun v h => ?_)
  obtain ⟨⟨w, -, hw, e⟩, p', b', X', hp, hb', o'⟩ := h
  have k : ∀ y : Int32, wp (M_readWall_78 v.1 y v.2) (SL t0 L p b0) := fun y => by
    unfold M_readWall_78
    rw [e]
    refine wsb (wsb ?_)
    refine wb (V_number ((X'.u (by decide)).u (by decide)) (by decide) (by decide)) (fun v2 h2 => wm (nI_add 36 w) (by omega) (by decide) (wsb (ws ?_)))
    obtain ⟨-, p2, b2, X3, hp2, hb2, o3⟩ := h2
    exact ⟨p2, b2, rr, X3.ur (by omega), by omega, fun e => hb (hb' (hb2 e)), (((((o.tr o'.l).tr (offLn.u (by decide))).tr (offLn.u (by decide))).tr o3.l)).tr offLn.ur⟩
  exact wi (fun _ => k _) (fun _ => k _)
theorem V_readWall (X : TX t L p b rr) : wp (M_readWall t) (SL t L p b) := by
  unfold M_readWall
  have k := V_rw50 X offLn.rf id
  refine wi (fun _ => wi (fun _ => wIn (lo := nI 0) (hi := nI 4) rfl rfl (fun _ => k) (fun c1 c2 => wi (fun _ => wb (V_fails X (by decide)) (fun t1 g1 => ?_)) (fun _ => k))) (fun _ => k)) (fun _ => k)
  obtain ⟨⟨b', X', hb'⟩, o'⟩ := g1
  exact V_rw50 X' o'.l (fun e => absurd e hb')
theorem V_ro2 {b0 p0 : Nat} : ∀ (n q fu p b : Nat) (t : sg), TX t L p b rr → offLn t0 t → (b = 0 → b0 = 0) → p0 ≤ p → q + n = 8 → n < fu → wp (M_readOut_2 fu (nI q) t) (SL t0 L p0 b0)
  | n, q, 0, p, b, t, X, o, hb, hp, hr, hf => absurd hf (by omega)
  | n, q, fu + 1, p, b, t, X, o, hb, hp, hr, hf => by
    rw [M_readOut_2]
    have done : SL t0 L p0 b0 t := ⟨p, b, rr, X, hp, hb, o⟩
    refine wi (fun _ => wi (fun _ => wi (fun _ => wb (V_fails X (by decide)) (fun t1 g1 => ws ?_)) (fun c => ?_)) (fun _ => ws done)) (fun _ => ws done)
    · obtain ⟨⟨b', X', hb'⟩, o'⟩ := g1
      exact ⟨p, b', rr, X', hp, fun e => absurd e hb', o.tr o'.l⟩
    · have hq : q ≠ 8 := fun e => c (by rw [e])
      obtain ⟨n, rfl⟩ : ∃ k, n = k + 1 := ⟨n - 1, by omega⟩
      refine wb (V_number X (by decide) (by decide)) (fun v h => ?_)
      obtain ⟨-, p', b', X', hp', hb', o'⟩ := h
      rw [nI_add, nI_add]
      exact wm rfl (by omega) (by decide) (wsb (V_ro2 n (q + 1) fu p' b' _ (X'.ur (by omega)) ((o.tr o'.l).tr offLn.ur) (fun e => hb (hb' e)) (by omega) (by omega) (by omega)))
theorem V_readMore {n : Nat} (X : TX t L p b rr) (hn : n ≤ 6) (h4 : n = 4 → rr < 6) : wp (M_readMore (nI n) t) (SL t L p b) := by
  unfold M_readMore
  refine wi (fun _ => wi (fun c => ?_) (fun _ => wi (fun _ => wb (V_readWall X) (fun t1 h1 => ws h1)) (fun _ => wb (V_ro2 8 0 FU p b t X offLn.rf id (Nat.le_refl p) (by omega) (by decide)) (fun t1 h1 => ws h1)))) (fun _ => wb (V_readTongue X) (fun t1 h1 => ws h1))
  have hr := h4 ((nI_eq (by omega) (by decide)).mp c)
  refine wb (V_number X (by decide) (by decide)) (fun v3 h3 => ?_)
  obtain ⟨-, p3, b3, X3, hp3, hb3, o3⟩ := h3
  rw [X.r]
  refine wm rfl (by omega) (by decide) (wsb ?_)
  have Y3 := X3.ur (k := rr) (v := v3.1) (by omega)
  refine wb (V_number Y3 (by decide) (by decide)) (fun v4 h4 => ?_)
  obtain ⟨-, p4, b4, X4, hp4, hb4, o4⟩ := h4
  rw [Y3.r]
  refine wm (nI_add 6 rr) (by omega) (by decide) (wsb ?_)
  have Y4 := X4.ur (k := 6 + rr) (v := v4.1) (by omega)
  refine wb (V_number Y4 (by decide) (by decide)) (fun v5 h5 => ?_)
  obtain ⟨-, p5, b5, X5, hp5, hb5, o5⟩ := h5
  rw [Y4.r]
  refine wm (nI_add 12 rr) (by omega) (by decide) (wsb (wsb (ws ?_)))
  have Y5 := X5.ur (k := 12 + rr) (v := v5.1) (by omega)
  rw [Y5.r, nI_add]
  exact ⟨p5, b5, rr + 1, Y5.u3 (by omega), by omega, fun e => hb3 (hb4 (hb5 e)), (((((o3.l.tr offLn.ur).tr o4.l).tr offLn.ur).tr o5.l).tr offLn.ur).tr (offLn.u (by decide))⟩
/-- after a line -/
def SJ (t : sg) (L p : Nat) (t' : sg) : Prop := ∃ p' b' rr', TX t' L p' b' rr' ∧ (b' = 0 → FR t' p' ∧ (t' 10 14 = nI 0 ∨ p < p')) ∧ offLn t t'
theorem V_rl119 {p0 : Nat} (X : TX t L p b rr) (o : offLn t0 t) (hp : p0 ≤ p) : wp (M_readLine_119 t) (SJ t0 L p0) := by
  unfold M_readLine_119
  refine wb (V_step X) (fun t1 h1 => ws ?_)
  obtain ⟨p', b', X', hp', hb', o'⟩ := h1
  exact ⟨p', b', rr, X', fun e => ⟨(hb' e).2.1, (hb' e).2.2.imp (fun z => z) (fun z => by omega)⟩, o.tr o'.l⟩
theorem V_rl79 {n : Nat} {y : Int32} (hy : y = nI 0 ∨ y = nI 1) (X : TX t L p b rr) (o : offLn t0 t) (hn : n ≤ 6) (h4 : n = 4 → b = 0 → rr < 6) : wp (M_readLine_79 (nI n) y t) (SJ t0 L p) := by
  unfold M_readLine_79
  refine wi (fun _ => wsb ?_) (fun c => absurd hy c)
  have X1 : TX (up t 10 5 y) L p b rr := X.u (by decide)
  refine wb (V_step X1) (fun t2 h2 => ?_)
  obtain ⟨p2, b2, X2, hp2, hb2, o2⟩ := h2
  have o2' : offLn t0 t2 := (o.tr (offLn.u (by decide))).tr o2.l
  rw [X2.b]
  have hbb := X2.b2
  refine wi (fun c => ws ⟨p2, b2, rr, X2, fun e => ?_, o2'⟩) (fun c => ?_)
  · rw [e] at c; exact absurd c (by decide)
  have e0 : b2 = 0 := by
    rcases Nat.eq_zero_or_pos b2 with e | e
    · exact e
    · exact absurd ((nI_ltI (a := 0) (by decide) (by omega)).mpr e) c
  refine wb (V_readMore X2 hn (fun e => h4 e (hb2 e0).1)) (fun t3 h3 => ?_)
  obtain ⟨p3, b3, r3, X3, hp3, hb3, o3⟩ := h3
  have o3' := o2'.tr o3
  refine wi (fun _ => wi (fun _ => V_rl119 X3 o3' (by omega)) (fun _ => wb (V_fails X3 (by decide)) (fun t4 g4 => ?_))) (fun _ => V_rl119 X3 o3' (by omega))
  obtain ⟨⟨b4, X4, hb4⟩, o4⟩ := g4
  exact V_rl119 X4 (o3'.tr o4.l) (by omega)
theorem V_rl60 {n : Nat} (X : TX t L p b rr) (o : offLn t0 t) (hn : n ≤ 6) (h4 : n = 4 → b = 0 → rr < 6) : wp (M_readLine_60 (nI n) t) (SJ t0 L p) := by
  unfold M_readLine_60 M_readLine_74
  exact wi (fun _ => wi (fun _ => V_rl79 (Or.inr rfl) X o hn h4) (fun _ => V_rl79 (Or.inl rfl) X o hn h4)) (fun _ => V_rl79 (Or.inr rfl) X o hn h4)
theorem V_rl42 {n : Nat} (X : TX t L p b rr) (o : offLn t0 t) (hn : n ≤ 6) (h4 : n = 4 → b = 0 → rr < 6) : wp (M_readLine_42 (nI n) t) (SJ t0 L p) := by
  unfold M_readLine_42
  refine wi (fun _ => wi (fun _ => V_rl60 X o hn h4) (fun _ => wb (V_fails X (by decide)) (fun t1 g1 => ?_))) (fun _ => V_rl60 X o hn h4)
  obtain ⟨⟨b', X', hb'⟩, o'⟩ := g1
  exact V_rl60 X' (o.tr o'.l) hn (fun _ e => absurd e hb')
theorem V_nh51 {k2 : Int32 → Option Int32} {n f : Nat} {E : Nat → Nat} (X : TX t L p b rr) (F : t 10 13 = nI f) (hfp : f ≤ p) (hE : ∀ j, j ≤ 7 → t 14 j = nI (E j)) (hE2 : ∀ j, j < 7 → E j ≤ E (j + 1) ∧ E (j + 1) ≤ 29) (hn : n < 7) (hk : wp (k2 (nI n + nI 1)) (fun _ => True)) : ∀ (m q fu : Nat) (y : Int32), (y = 0 ∨ p - f = E (n + 1) - E n) → q + m = p - f → m < fu → wp (M_nameHere_51 k2 (nI n) t fu y (nI q)) (fun _ => True)
  | m, q, 0, y, hy, hr, hf => absurd hf (by omega)
  | m, q, fu + 1, y, hy, hr, hf => by
    have h2 := X.l2
    have hp := X.p2
    rw [M_nameHere_51]
    have w106 : ∀ y : Int32, wp (M_nameHere_106 k2 (nI n) y t) (fun _ => True) := fun y => by
      unfold M_nameHere_106
      exact wi (fun _ => hk) (fun _ => ws trivial)
    refine wi (fun _ => w106 _) (fun c => ?_)
    rw [X.p, F, pk_sub hfp]
    refine wi (fun c2 => ?_) (fun _ => w106 _)
    rw [nI_ltI (by omega) (by omega)] at c2
    obtain ⟨m, rfl⟩ : ∃ k, m = k + 1 := ⟨m - 1, by omega⟩
    have hl := hy.resolve_left c
    have h7 := hE2 n hn
    rw [nI_add, byteAt_eq X (by omega)]
    refine wsb (wm rfl (by omega) (by decide) (wm (by rw [hE n (by omega), nI_add]) (show E n + q < 29 by omega) (by decide) ?_))
    rw [nI_add]
    exact wi (fun _ => V_nh51 X F hfp hE hE2 hn hk m (q + 1) fu _ (Or.inr hl) (by omega) (by omega)) (fun _ => V_nh51 X F hfp hE hE2 hn hk m (q + 1) fu _ (Or.inl rfl) (by omega) (by omega))
theorem V_nh2 {f : Nat} {E : Nat → Nat} (X : TX t L p b rr) (F : t 10 13 = nI f) (hfp : f ≤ p) (hE : ∀ j, j ≤ 7 → t 14 j = nI (E j)) (hE2 : ∀ j, j < 7 → E j ≤ E (j + 1) ∧ E (j + 1) ≤ 29) : ∀ (m q fu : Nat), q + m = 7 → m < fu → wp (M_nameHere_2 t fu (nI q)) (fun _ => True)
  | m, q, 0, hr, hf => absurd hf (by omega)
  | m, q, fu + 1, hr, hf => by
    have h2 := X.l2
    have hp := X.p2
    rw [M_nameHere_2]
    refine wi (fun c => wi (fun _ => ?_) (fun _ => ws trivial)) (fun _ => ws trivial)
    rw [nI_ltI (by omega) (by omega)] at c
    obtain ⟨m, rfl⟩ : ∃ k, m = k + 1 := ⟨m - 1, by omega⟩
    have hk : wp (M_nameHere_2 t fu (nI q + nI 1)) (fun _ => True) := by
      rw [nI_add]; exact V_nh2 X F hfp hE hE2 m (q + 1) fu (by omega) (by omega)
    have h7 := hE2 q c
    refine wm (nI_add q 1) (by omega) (by decide) (wm rfl (by omega) (by decide) ?_)
    rw [X.p, F, pk_sub hfp, hE (q + 1) (by omega), hE q (by omega), pk_sub h7.1]
    refine wi (fun e => V_nh51 X F hfp hE hE2 c hk (p - f) 0 FU _ (Or.inr ((nI_eq (by omega) (by omega)).mp e)) (by omega) (by show p - f < 100000; omega)) (fun _ => V_nh51 X F hfp hE hE2 c hk (p - f) 0 FU _ (Or.inl rfl) (by omega) (by show p - f < 100000; omega))
theorem V_readLine (X : TX t L p b rr) (F : FR t p) : wp (M_readLine t) (SJ t L p) := by
  obtain ⟨f, hfp, F⟩ := F
  obtain ⟨E, hE, hE2⟩ := X.e
  unfold M_readLine
  refine wb (P := fun _ => True) ?_ (fun v1 _ => wIn (lo := nI 0) (hi := nI 6) rfl rfl (fun _ => wb (V_fails X (by decide)) (fun t1 g1 => ws ?_)) (fun c1 c2 => ?_))
  · unfold M_nameHere
    exact V_nh2 X F hfp hE hE2 7 0 FU (by omega) (by decide)
  · obtain ⟨⟨b', X', hb'⟩, o'⟩ := g1
    exact ⟨p, b', rr, X', fun e => absurd e hb', o'.l⟩
  · obtain ⟨n, -, hn, rfl⟩ := in_nI (by decide) ⟨c1, c2⟩ (by decide)
    have hr2 := X.r2
    rw [X.r]
    refine wi (fun _ => wi (fun _ => wb (V_fails X (by decide)) (fun t1 g1 => ?_)) (fun c6 => V_rl42 X offLn.rf hn (fun _ _ => ?_))) (fun c4 => V_rl42 X offLn.rf hn (fun e => absurd (by rw [e]) c4))
    · obtain ⟨⟨b', X', hb'⟩, o'⟩ := g1
      exact V_rl42 X' o'.l hn (fun _ e => absurd e hb')
    · have : rr ≠ 6 := fun e => c6 (by rw [e])
      omega
/-- off what a text may write -/
def offX (t t' : sg) : Prop := ∀ p k, ¬ (p = 10 ∧ ((3 ≤ k ∧ k ≤ 6) ∨ (8 ≤ k ∧ k ≤ 15))) → p ≠ 12 → t' p k = t p k
def offY (t t' : sg) : Prop := ∀ p k, p ≠ 10 → ¬ (p = 11 ∧ k < 52) → p ≠ 12 → p ≠ 19 → t' p k = t p k
/-- after a text -/
def SE (t t' : sg) : Prop := t' 10 8 = nI 0 ∧ (offX t t' ∨ (offY t t' ∧ ∃ R : Nat, PG t' 0 R 0 ∧ t' 10 22 = nI 0))
theorem V_tx135 {t1 : sg} {R : Nat} (hR : R ≤ 6) : ∀ (n q fu : Nat) (t : sg), offY t1 t → t 10 8 = nI 0 → t 10 3 = nI R → t 12 49 = nI 0 → (49 < q → t 11 49 = nI 0) → q + n = 52 → n < fu → wp (M_text_135 x1 fu (nI q) t) (fun v => SE t1 v.2)
  | n, q, 0, t, o, h8, h3, h49, hq, hr, hf => absurd hf (by omega)
  | n, q, fu + 1, t, o, h8, h3, h49, hq, hr, hf => by
    rw [M_text_135]
    refine wi (fun c => ?_) (fun c => wsb (wsb (wm rfl (by decide) (by decide) (wsb (wm rfl (by decide) (by decide) (wsb (ws ?_)))))))
    · rw [nI_ltI (by omega) (by omega)] at c
      obtain ⟨n, rfl⟩ : ∃ k, n = k + 1 := ⟨n - 1, by omega⟩
      refine wm rfl (by omega) (by decide) (wm rfl (by omega) (by decide) (wsb ?_))
      rw [nI_add]
      refine V_tx135 hR n (q + 1) fu _ (fun p k a1 a2 a3 a4 => ?_) ((up_p (by decide)).trans h8) ((up_p (by decide)).trans h3) ((up_p (by decide)).trans h49) (fun h => ?_) (by omega) (by omega)
      · rw [up, if_neg (fun w => a2 ⟨w.1, by omega⟩)]; exact o p k a1 a2 a3 a4
      · by_cases e : q = 49
        · subst e; rw [up_eq]; exact h49
        · rw [up_k (by omega)]; exact hq (by omega)
    · rw [nI_ltI (by omega) (by omega)] at c
      refine ⟨?_, Or.inr ⟨fun p k a1 a2 a3 a4 => ?_, R, ⟨?_, hR, by decide, ?_⟩, ?_⟩⟩
      · dsimp only
        rw [up_p (by decide), up_p (by decide), up_k (by decide), up_k (by decide)]; exact h8
      · dsimp only
        rw [up_p a4, up_p a4, up_p a1, up_p a1]; exact o p k a1 a2 a3 a4
      · dsimp only
        rw [up_p (by decide), up_p (by decide), up_k (by decide), up_eq]; exact h3
      · dsimp only
        rw [up_p (by decide), up_p (by decide), up_p (by decide), up_p (by decide)]; exact hq (by omega)
      · dsimp only
        rw [up_p (by decide), up_p (by decide), up_eq]
theorem V_tx105 (X : TX t L p b rr) (o : offX t0 t) : wp (M_text_105 x1 t) (fun v => SE t0 v.2) := by
  unfold M_text_105
  refine wsb (wsb ?_)
  have o2 : ∀ v : Int32, offX t0 (up (up t 10 8 (nI 0)) 10 9 v) := fun v p k a1 a2 => by
    rw [up, if_neg (fun w => a1 ⟨w.1, by omega⟩), up, if_neg (fun w => a1 ⟨w.1, by omega⟩)]; exact o p k a1 a2
  refine wi (fun _ => ws ⟨?_, Or.inl (o2 _)⟩) (fun _ => ?_)
  · dsimp only; rw [up_k (by decide), up_eq]
  · refine V_tx135 X.r2 52 0 FU _ (fun p k a1 a2 a3 a4 => o2 _ p k (fun w => a1 w.1) a3) ?_ ?_ ?_ (fun h => absurd h (by decide)) (by omega) (by decide)
    · rw [up_k (by decide), up_eq]
    · rw [up_k (by decide), up_k (by decide)]; exact X.r
    · rw [up_p (by decide), up_p (by decide)]; exact X.h
theorem offLn.xx {t t' : sg} (o : offLn t t') : offX t t' := fun p k a b => o p k (fun w => a ⟨w.1, by omega⟩) b
theorem offX.tr {t t' t'' : sg} (h1 : offX t t') (h2 : offX t' t'') : offX t t'' := fun p k a b => (h2 p k a b).trans (h1 p k a b)
theorem V_tx81 (X : TX t L p b rr) (o : offX t0 t) : wp (M_text_81 x1 t) (fun v => SE t0 v.2) := by
  unfold M_text_81
  refine wi (fun _ => wi (fun _ => V_tx105 X o) (fun _ => wb (V_fails X (by decide)) (fun t1 g1 => ?_))) (fun _ => V_tx105 X o)
  obtain ⟨⟨b', X', hb'⟩, o'⟩ := g1
  exact V_tx105 X' (o.tr o'.l.xx)
theorem V_tx57 : ∀ (n fu p b rr : Nat) (x1 : Int32) (t : sg), TX t L p b rr → (b = 0 → FR t p) → offX t0 t → p + n = L → n + 2 ≤ fu ∨ (1 ≤ fu ∧ (b = 0 → t 10 14 = nI 0)) → wp (M_text_57 fu x1 t) (fun v => SE t0 v.2)
  | n, 0, p, b, rr, x1, t, X, F, o, hr, hf => absurd hf (by omega)
  | n, fu + 1, p, b, rr, x1, t, X, F, o, hr, hf => by
    have hb2 := X.b2
    rw [M_text_57, X.b]
    refine wi (fun c => wi (fun _ => V_tx81 X o) (fun c14 => ?_)) (fun _ => V_tx81 X o)
    have e0 : b = 0 := (nI_eq (by omega) (by decide)).mp c
    have hf2 : n + 2 ≤ fu + 1 := hf.resolve_right (fun w => c14 (w.2 e0))
    refine wb (V_readLine X (F e0)) (fun t1 h1 => ?_)
    obtain ⟨p', b', rr', X', hb', o'⟩ := h1
    have hp' := X'.p2
    have hn : ∃ n', p' + n' = L := ⟨L - p', by omega⟩
    obtain ⟨n', hn'⟩ := hn
    refine V_tx57 n' fu p' b' rr' _ t1 X' (fun e => (hb' e).1) (o.tr o'.xx) hn' ?_
    by_cases q : b' = 0
    · rcases (hb' q).2 with z | z
      · exact Or.inr ⟨by omega, fun _ => z⟩
      · exact Or.inl (by omega)
    · exact Or.inr ⟨by omega, fun e => absurd e q⟩
theorem V_tx34 : ∀ (n q fu : Nat) (t : sg), TX t L p b rr ∨ q ≤ 49 → (q ≤ 49 → TX (up t 12 49 (nI 0)) L p b rr) → offX t0 t → q + n = 52 → n < fu → wp (M_text_34 x1 fu (nI q) t) (fun v => SE t0 v.2)
  | n, q, 0, t, X, X0, o, hr, hf => absurd hf (by omega)
  | n, q, fu + 1, t, X, X0, o, hr, hf => by
    rw [M_text_34]
    refine wi (fun c => ?_) (fun c => ?_)
    · rw [nI_ltI (by omega) (by omega)] at c
      obtain ⟨n, rfl⟩ : ∃ k, n = k + 1 := ⟨n - 1, by omega⟩
      refine wm rfl (by omega) (by decide) (wsb ?_)
      rw [nI_add]
      refine V_tx34 n (q + 1) fu _ ?_ (fun h => ?_) (o.tr (offLn.xx offLn.ur)) (by omega) (by omega)
      · by_cases h : q + 1 ≤ 49
        · exact Or.inr h
        · by_cases e : q = 49
          · subst e; exact Or.inl (X0 (by omega))
          · exact Or.inl ((X.resolve_right (by omega)).ur e)
      · have Y := X0 (by omega)
        refine Y.keep ?_ ?_ ?_ ?_ ?_ ?_
        · rw [up_p (by decide), up_p (by decide), up_p (by decide)]
        · rw [up_p (by decide), up_p (by decide), up_p (by decide)]
        · rw [up_p (by decide), up_p (by decide), up_p (by decide)]
        · rw [up_p (by decide), up_p (by decide), up_p (by decide)]
        · rw [up_eq, up_eq]
        · rw [up14 (by decide), up14 (by decide), up14 (by decide)]
    · rw [nI_ltI (by omega) (by omega)] at c
      refine wb (V_step (X.resolve_right (by omega))) (fun t1 h1 => ?_)
      obtain ⟨p', b', X', hp', hb', o'⟩ := h1
      have hp2 := X'.p2
      have hl := X'.l2
      refine V_tx57 (L - p') FU p' b' rr _ t1 X' (fun e => (hb' e).2.1) (o.tr o'.l.xx) (by omega) (Or.inl (by show L - p' + 2 ≤ 100000; omega))
theorem V_M_text (hl : t 10 8 = nI L) (hL : L ≤ 160) (hE : EN t) : wp (M_text t) (fun v => SE t v.2) := by
  unfold M_text
  refine wsb (wsb (wsb (wsb (wsb (wsb ?_)))))
  refine V_tx34 (L := L) (p := 0) (b := 0) (rr := 0) 52 0 FU _ (Or.inr (by decide)) (fun _ => ?_) (fun p k a1 a2 => ?_) (by omega) (by decide)
  · refine ⟨?_, hL, ?_, Nat.zero_le L, ?_, by decide, ?_, by decide, up_eq, hE.k ?_⟩
    · rw [up_p (by decide), up_k (by decide), up_k (by decide), up_k (by decide), up_k (by decide), up_k (by decide), up_k (by decide)]; exact hl
    · rw [up_p (by decide), up_k (by decide), up_k (by decide), up_k (by decide), up_k (by decide), up_eq]
    · rw [up_p (by decide), up_k (by decide), up_k (by decide), up_k (by decide), up_k (by decide), up_k (by decide), up_eq]
    · rw [up_p (by decide), up_k (by decide), up_k (by decide), up_k (by decide), up_eq]
    · rw [up14 (by decide), up14 (by decide), up14 (by decide), up14 (by decide), up14 (by decide), up14 (by decide), up14 (by decide)]
  · rw [up, if_neg (fun w => a1 ⟨w.1, by omega⟩), up, if_neg (fun w => a1 ⟨w.1, by omega⟩), up, if_neg (fun w => a1 ⟨w.1, by omega⟩), up, if_neg (fun w => a1 ⟨w.1, by omega⟩), up, if_neg (fun w => a1 ⟨w.1, by omega⟩), up, if_neg (fun w => a1 ⟨w.1, by omega⟩)]
end MT
end Q54
section Q55
/-! the reference's calls: they end and keep what is kept -/
def IM (t : sg) : Prop := (∃ R h : Nat, h ≤ 999 ∧ PG t 0 R h) ∧ (∀ k : Nat, k < 2 → ∃ h : Nat, h ≤ 999 ∧ t 11 (52 * (k + 1) + 49) = nI h) ∧ SN t ∧ (∃ L : Nat, L ≤ 160 ∧ t 10 8 = nI L) ∧ (∀ k : Nat, k < 4 → ∃ n : Nat, n ≤ 40 ∧ t 21 k = nI n) ∧ EN t
def SB (t t' : sg) : Prop := t' 10 8 = t 10 8 ∧ t' 20 = t 20 ∧ t' 21 = t 21
theorem SB.rf {t : sg} : SB t t := ⟨rfl, rfl, rfl⟩
def offZ (t t' : sg) : Prop := ∀ p k, ¬ (p = 11 ∧ (k < 52 ∨ 156 ≤ k)) → p ≠ 16 → p ≠ 18 → ¬ (p = 10 ∧ (k = 19 ∨ k = 20 ∨ k = 28)) → t' p k = t p k
theorem offZ.rf {t : sg} : offZ t t := fun _ _ _ _ _ _ => rfl
theorem offZ.tr {t t' t'' : sg} (h1 : offZ t t') (h2 : offZ t' t'') : offZ t t'' := fun p k a b c d => (h2 p k a b c d).trans (h1 p k a b c d)
theorem offM.z {t t' : sg} (o : offM t t') : offZ t t' := fun p k a b c d => o p k (fun w => a ⟨w.1, Or.inr w.2⟩) b c (fun w => d ⟨w.1, by omega⟩)
theorem offP.z {t t' : sg} (o : offP 0 t t') : offZ t t' := fun p k a b _ _ => o p k (fun w => a ⟨w.1, Or.inl (by omega)⟩) b
theorem offZ.u {t : sg} {k : Nat} {v : Int32} (hk : k < 52) : offZ t (up t 11 k v) := fun p j a _ _ _ => if_neg (fun w => a ⟨w.1, by omega⟩)
theorem SN.z {t t' : sg} (S : SN t) (o : offZ t t') : SN t' := by
  obtain ⟨m, hm, e, S⟩ := S
  refine ⟨m, hm, (o 10 22 (by omega) (by decide) (by decide) (by omega)).trans e, fun i hi => ?_⟩
  rw [o 17 _ (by omega) (by decide) (by decide) (by omega)]
  exact S i hi
theorem IM.z {t t' : sg} (I : IM t) (o : offZ t t') (N : ∃ R h : Nat, h ≤ 999 ∧ PG t' 0 R h) : IM t' ∧ SB t t' := by
  obtain ⟨-, i2, i3, i4, i5, i6⟩ := I
  refine ⟨⟨N, fun k hk => ?_, i3.z o, ?_, fun k hk => ?_, i6.k ?_⟩, ?_, ?_, ?_⟩
  · rw [o 11 _ (by omega) (by decide) (by decide) (by omega)]; exact i2 k hk
  · rw [o 10 8 (by omega) (by decide) (by decide) (by omega)]; exact i4
  · rw [o 21 k (by omega) (by decide) (by decide) (by omega)]; exact i5 k hk
  · funext k; exact o 14 k (by omega) (by decide) (by decide) (by omega)
  · exact o 10 8 (by omega) (by decide) (by decide) (by omega)
  · funext k; exact o 20 k (by omega) (by decide) (by decide) (by omega)
  · funext k; exact o 21 k (by omega) (by decide) (by decide) (by omega)
theorem IM.m {t t' : sg} (I : IM t) (o : offM t t') : IM t' ∧ SB t t' := by
  obtain ⟨R, h, hh, P⟩ := I.1
  exact I.z o.z ⟨R, h, hh, P.m o (by decide)⟩
section MCALLS
variable {t : sg} {R h : Nat} {x x1 x2 x3 x4 x5 : Int32}
theorem V_M_feed (I : IM t) : wp (M_feed x1 t) (fun v => IM v.2 ∧ v.2 20 = t 20 ∧ v.2 21 = t 21) := by
  have I0 := I
  obtain ⟨⟨R, h, hh, P⟩, i2, i3, ⟨L, hL, eL⟩, i5, i6⟩ := I
  unfold M_feed
  refine wbB (V_inN (a := 0) (c := 127) rfl rfl (by decide) (by decide)) (ws ⟨I0, rfl, rfl⟩) (fun _ => ?_)
  rw [eL]
  refine wi (fun _ => ws ⟨I0, rfl, rfl⟩) (fun c => ?_)
  have hL2 : L ≠ 160 := fun e => c (by rw [e])
  refine wm rfl (by omega) (by decide) (wsb (wsb (ws ?_)))
  have e8 : up t 13 L x1 10 8 = nI L := by rw [up_p (by decide), eL]
  rw [e8, nI_add]
  dsimp only
  refine ⟨⟨⟨R, h, hh, ?_, P.2.1, P.2.2.1, ?_⟩, fun k hk => ?_, ?_, ⟨L + 1, by omega, up_eq⟩, fun k hk => ?_, i6.k ?_⟩, ?_, ?_⟩
  · rw [up_k (by decide), up_p (by decide)]; exact P.1
  · rw [up_p (by decide), up_p (by decide)]; exact P.2.2.2
  · rw [up_p (by decide), up_p (by decide)]; exact i2 k hk
  · obtain ⟨m, hm, e, S⟩ := i3
    refine ⟨m, hm, ?_, fun i hi => ?_⟩
    · rw [up_k (by decide), up_p (by decide)]; exact e
    · rw [up_p (by decide), up_p (by decide)]; exact S i hi
  · rw [up_p (by decide), up_p (by decide)]; exact i5 k hk
  · rw [up14 (by decide), up14 (by decide)]
  · funext k; rw [up_p (by decide), up_p (by decide)]
  · funext k; rw [up_p (by decide), up_p (by decide)]
theorem V_M_end (I : IM t) : wp (M_end x1 t) (fun v => IM v.2 ∧ v.2 20 = t 20 ∧ v.2 21 = t 21) := by
  have I0 := I
  obtain ⟨⟨R, h, hh, P⟩, i2, i3, ⟨L, hL, eL⟩, i5, i6⟩ := I
  unfold M_end
  rw [eL]
  refine wbB (V_inN (a := 0) (c := L) rfl rfl (by decide) (by omega)) (ws ⟨I0, rfl, rfl⟩) (fun q => wsb (ws ?_))
  obtain ⟨j, -, hj, rfl⟩ := q
  dsimp only
  refine ⟨⟨⟨R, h, hh, ?_, P.2.1, P.2.2.1, ?_⟩, fun k hk => ?_, ?_, ⟨j, by omega, up_eq⟩, fun k hk => ?_, i6.k ?_⟩, ?_, ?_⟩
  · rw [up_k (by decide)]; exact P.1
  · rw [up_p (by decide)]; exact P.2.2.2
  · rw [up_p (by decide)]; exact i2 k hk
  · obtain ⟨m, hm, e, S⟩ := i3
    refine ⟨m, hm, ?_, fun i hi => ?_⟩
    · rw [up_k (by decide)]; exact e
    · rw [up_p (by decide)]; exact S i hi
  · rw [up_p (by decide)]; exact i5 k hk
  · rw [up14 (by decide)]
  · funext k; rw [up_p (by decide)]
  · funext k; rw [up_p (by decide)]
theorem V_M_textI (I : IM t) : wp (M_text t) (fun v => IM v.2 ∧ v.2 10 8 = nI 0 ∧ v.2 20 = t 20 ∧ v.2 21 = t 21) := by
  obtain ⟨⟨R, h, hh, P⟩, i2, i3, ⟨L, hL, eL⟩, i5, i6⟩ := I
  refine wc (V_M_text eL hL i6) (fun v hv => ?_)
  obtain ⟨e8, o | ⟨o, R', P', e22⟩⟩ := hv
  · refine ⟨⟨⟨R, h, hh, ?_, P.2.1, P.2.2.1, ?_⟩, fun k hk => ?_, ?_, ⟨0, by decide, e8⟩, fun k hk => ?_, i6.k ?_⟩, e8, ?_, ?_⟩
    · rw [o 10 1 (by omega) (by decide)]; exact P.1
    · rw [o 11 _ (by omega) (by decide)]; exact P.2.2.2
    · rw [o 11 _ (by omega) (by decide)]; exact i2 k hk
    · obtain ⟨m, hm, e, S⟩ := i3
      refine ⟨m, hm, ?_, fun i hi => ?_⟩
      · rw [o 10 22 (by omega) (by decide)]; exact e
      · rw [o 17 _ (by omega) (by decide)]; exact S i hi
    · rw [o 21 k (by omega) (by decide)]; exact i5 k hk
    · funext k; exact o 14 k (by omega) (by decide)
    · funext k; exact o 20 k (by omega) (by decide)
    · funext k; exact o 21 k (by omega) (by decide)
  · refine ⟨⟨⟨R', 0, by decide, P'⟩, fun k hk => ?_, ⟨0, by decide, e22, fun i hi => absurd hi (by omega)⟩, ⟨0, by decide, e8⟩, fun k hk => ?_, i6.k ?_⟩, e8, ?_, ?_⟩
    · rw [o 11 _ (by decide) (by omega) (by decide) (by decide)]; exact i2 k hk
    · rw [o 21 k (by decide) (by omega) (by decide) (by decide)]; exact i5 k hk
    · funext k; exact o 14 k (by decide) (by omega) (by decide) (by decide)
    · funext k; exact o 20 k (by decide) (by omega) (by decide) (by decide)
    · funext k; exact o 21 k (by decide) (by omega) (by decide) (by decide)
theorem V_M_rule (I : IM t) : wp (M_rule x1 t) (fun _ => True) := by
  obtain ⟨⟨R, h, hh, P⟩, -⟩ := I
  unfold M_rule
  exact wi (fun _ => ws trivial) (fun _ => wi (fun _ => wm rfl (by decide) (by decide) (ws trivial)) (fun _ => wi (fun _ => wm rfl (by decide) (by decide) (ws trivial)) (fun _ => wi (fun _ => wm rfl (by decide) (by decide) (ws trivial)) (fun _ => wi (fun _ => wb (V_warmthOn P (by decide)) (fun _ _ => ws trivial)) (fun _ => wi (fun _ => wb (V_onOn P (by decide)) (fun _ _ => ws trivial)) (fun _ => wi (fun _ => wb (V_outOn P (by omega)) (fun _ _ => ws trivial)) (fun _ => ws trivial)))))))
theorem V_M_room (I : IM t) : wp (M_room x1 x2 t) (fun _ => True) := by
  obtain ⟨⟨R, h, hh, P⟩, -⟩ := I
  have h6 := P.2.1
  unfold M_room
  refine wbB (V_isRoom P) (ws trivial) (fun q => wbB (V_inN (a := 0) (c := 7) rfl rfl (by decide) (by decide)) (ws trivial) (fun q2 => ?_))
  obtain ⟨j, hj, rfl⟩ := q
  obtain ⟨k, -, hk, rfl⟩ := q2
  have hj6 : j < 6 := by omega
  refine wi (fun _ => wm (by rw [pk_mul, nI_add]) (show 6 * k + j < 312 by omega) (by decide) (ws trivial)) (fun _ => wi (fun _ => wm (nI_add 30 j) (by omega) (by decide) (ws trivial)) (fun _ => wbB (V_hasTongue hj6) (ws trivial) (fun _ => ?_)))
  exact wi (fun _ => wm (nI_add 18 j) (by omega) (by decide) (ws trivial)) (fun _ => wi (fun _ => wm (nI_add 24 j) (by omega) (by decide) (ws trivial)) (fun _ => wi (fun _ => wb (V_lowOn P hj6) (fun _ _ => ws trivial)) (fun _ => wb (V_highOn P hj6) (fun _ _ => ws trivial))))
theorem V_M_wall (I : IM t) : wp (M_wall x1 t) (fun _ => True) := by
  obtain ⟨⟨R, h, hh, P⟩, -⟩ := I
  have h6 := P.2.1
  unfold M_wall
  refine wbB (V_isWall P) (ws trivial) (fun q => ?_)
  obtain ⟨j, hj, rfl⟩ := q
  exact wm (nI_add 36 j) (by omega) (by decide) (ws trivial)
theorem V_M_outside : wp (M_outside x1 t) (fun _ => True) := by
  unfold M_outside
  refine wbB (V_inN (a := 0) (c := 7) rfl rfl (by decide) (by decide)) (ws trivial) (fun q => ?_)
  obtain ⟨j, -, hj, rfl⟩ := q
  exact wm (nI_add 41 j) (by omega) (by decide) (ws trivial)
theorem V_puts0 : wp (M_puts (nI 0) x2 x3 x4 t) (fun v => v.2 = t) := by
  unfold M_puts
  rw [if_pos (show nI 0 = 0 from rfl)]
  exact ws rfl
theorem V_puts1 {j : Nat} (hj : j < 312) : wp (M_puts (nI 1) (nI j) x3 x4 t) (fun v => v.2 = up t 11 j (x3 - x4)) := by
  unfold M_puts
  rw [if_neg (by decide)]
  exact wm rfl hj (by decide) (wm rfl hj (by decide) (wsb (ws rfl)))
theorem IM.u {j : Nat} {v : Int32} (I : IM t) (hj : j < 49) : IM (up t 11 j v) ∧ SB t (up t 11 j v) := by
  obtain ⟨R, h, hh, P⟩ := I.1
  exact I.z (offZ.u (by omega)) ⟨R, h, hh, P.at (by omega)⟩
theorem V_M_alter (I : IM t) : wp (M_alter x1 x2 x3 t) (fun v => IM v.2 ∧ SB t v.2) := by
  have I0 := I
  obtain ⟨⟨R, h, hh, P⟩, -⟩ := I
  have h6 := P.2.1
  have z : wp (M_alter_47 x1 x2 x3 t) (fun v => IM v.2 ∧ SB t v.2) := by
    unfold M_alter_47 M_alter_48
    exact wb V_puts0 (fun v e => ws (by dsimp only; rw [e]; exact ⟨I0, SB.rf⟩))
  unfold M_alter
  refine wbB (V_isRoom P) z (fun q => wbB (V_inN (a := 0) (c := 2) rfl rfl (by decide) (by decide)) z (fun q2 => ?_))
  obtain ⟨j, hj, rfl⟩ := q
  obtain ⟨k, -, hk, rfl⟩ := q2
  have w : wp (M_alter_48 (nI j) (nI k) x3 (nI 1) t) (fun v => IM v.2 ∧ SB t v.2) := by
    unfold M_alter_48
    rw [pk_mul, nI_add]
    exact wb (V_puts1 (by omega)) (fun v e => ws (by dsimp only; rw [e]; exact I0.u (by omega)))
  refine wi (fun _ => ?_) (fun _ => ?_)
  · unfold M_alter_37
    exact wbB (V_inN (a := 0) (c := 99) rfl rfl (by decide) (by decide)) z (fun _ => w)
  · unfold M_alter_37
    exact wbB (V_inN (a := 0) (c := 9) rfl rfl (by decide) (by decide)) z (fun _ => w)
theorem V_M_fit (I : IM t) : wp (M_fit x1 x2 x3 t) (fun v => IM v.2 ∧ SB t v.2) := by
  have I0 := I
  obtain ⟨⟨R, h, hh, P⟩, -⟩ := I
  have h6 := P.2.1
  unfold M_fit
  refine wbB (V_isRoom P) (ws ⟨I0, SB.rf⟩) (fun q => wbB (V_inN (a := 0) (c := 3) rfl rfl (by decide) (by decide)) (ws ⟨I0, SB.rf⟩) (fun _ => wbB (V_inN (a := 0) (c := 99) rfl rfl (by decide) (by decide)) (ws ⟨I0, SB.rf⟩) (fun _ => ?_)))
  obtain ⟨j, hj, rfl⟩ := q
  have w : ∀ y : Int32, wp (M_fit_58 (nI j) x2 x3 y t) (fun v => IM v.2 ∧ SB t v.2) := fun y => by
    unfold M_fit_58
    refine wm (nI_add 18 j) (by omega) (by decide) (wsb (wm (nI_add 24 j) (by omega) (by decide) (wsb (ws ?_))))
    exact I0.z ((offZ.u (by omega)).tr (offZ.u (by omega))) ⟨R, h, hh, (P.at (by omega)).at (by omega)⟩
  exact wbB (V_hasTongue (by omega)) (w _) (fun _ => wm (nI_add 18 j) (by omega) (by decide) (w _))
theorem V_M_strip (I : IM t) : wp (M_strip x1 t) (fun v => IM v.2 ∧ SB t v.2) := by
  have I0 := I
  obtain ⟨⟨R, h, hh, P⟩, -⟩ := I
  have h6 := P.2.1
  unfold M_strip
  refine wbB (V_isRoom P) (ws ⟨I0, SB.rf⟩) (fun q => ?_)
  obtain ⟨j, hj, rfl⟩ := q
  refine wbB (V_hasTongue (by omega)) (ws ⟨I0, SB.rf⟩) (fun _ => wm (nI_add 18 j) (by omega) (by decide) (wb (V_strips (by decide) (by omega)) (fun t1 h1 => ws ?_)))
  obtain ⟨v1, v2, v3, rfl⟩ := h1
  exact I0.z (((offZ.u (by omega)).tr (offZ.u (by omega))).tr (offZ.u (by omega))) ⟨R, h, hh, ((P.at (by omega)).at (by omega)).at (by omega)⟩
/-- a mark is set, or nothing is -/
theorem V_marks (P : PG t 0 R h) : wp (M_marks x1 x2 t) (fun v => v.2 = t ∨ ∃ j w, j < 49 ∧ v.2 = up t 11 j w) := by
  have h6 := P.2.1
  unfold M_marks
  refine wbB (V_isRoom P) (ws (Or.inl rfl)) (fun q => wbB (V_inN (a := 0) (c := 99) rfl rfl (by decide) (by decide)) (ws (Or.inl rfl)) (fun _ => ?_))
  obtain ⟨j, hj, rfl⟩ := q
  refine wbB (V_hasTongue (by omega)) (ws (Or.inl rfl)) (fun _ => ?_)
  rw [nI_add]
  exact wb (V_puts1 (by omega)) (fun v e => ws (Or.inr ⟨24 + j, _, by omega, e⟩))
theorem V_M_mark (I : IM t) : wp (M_mark x1 x2 t) (fun v => IM v.2 ∧ SB t v.2) := by
  have I0 := I
  obtain ⟨⟨R, h, hh, P⟩, -⟩ := I
  unfold M_mark
  refine wb (V_marks P) (fun v hv => ws ?_)
  dsimp only
  rcases hv with e | ⟨j, w, hj, e⟩
  · rw [e]; exact ⟨I0, SB.rf⟩
  · rw [e]; exact I0.u hj
theorem V_M_lag (I : IM t) : wp (M_lag x1 x2 t) (fun v => IM v.2 ∧ SB t v.2) := by
  have I0 := I
  obtain ⟨⟨R, h, hh, P⟩, -⟩ := I
  have h6 := P.2.1
  have z : wp (M_lag_25 x1 x2 t) (fun v => IM v.2 ∧ SB t v.2) := by
    unfold M_lag_25 M_lag_26
    exact wb V_puts0 (fun v e => ws (by dsimp only; rw [e]; exact ⟨I0, SB.rf⟩))
  unfold M_lag
  refine wbB (V_isWall P) z (fun q => wbB (V_inN (a := 0) (c := 9) rfl rfl (by decide) (by decide)) z (fun _ => ?_))
  obtain ⟨j, hj, rfl⟩ := q
  unfold M_lag_26
  rw [nI_add]
  exact wb (V_puts1 (by omega)) (fun v e => ws (by dsimp only; rw [e]; exact I0.u (by omega)))
theorem V_M_sky (I : IM t) : wp (M_sky x1 x2 t) (fun v => IM v.2 ∧ SB t v.2) := by
  have z : wp (M_sky_29 x1 x2 t) (fun v => IM v.2 ∧ SB t v.2) := by
    unfold M_sky_29 M_sky_30
    exact wb V_puts0 (fun v e => ws (by dsimp only; rw [e]; exact ⟨I, SB.rf⟩))
  unfold M_sky
  refine wbB (V_inN (a := 0) (c := 7) rfl rfl (by decide) (by decide)) z (fun q => wbB (V_inN (a := 0) (c := 99) rfl rfl (by decide) (by decide)) z (fun _ => ?_))
  obtain ⟨j, -, hj, rfl⟩ := q
  unfold M_sky_30
  rw [nI_add]
  exact wb (V_puts1 (by omega)) (fun v e => ws (by dsimp only; rw [e]; exact I.u (by omega)))
theorem V_h42 {N : Nat} {t0 : sg} (I0 : IM t0) (hN : N ≤ 48) : ∀ (n r fu h : Nat) (t : sg), offZ t0 t → PG t 0 R h → h + n ≤ 999 → r + n = N → n < fu → wp (M_hours_42 (nI N) x2 fu (nI r) t) (fun v => IM v.2 ∧ SB t0 v.2)
  | n, r, 0, h, t, o, P, hh, hr, hf => absurd hf (by omega)
  | n, r, fu + 1, h, t, o, P, hh, hr, hf => by
    rw [M_hours_42]
    refine wi (fun c => ?_) (fun _ => wm rfl (by decide) (by decide) (ws (I0.z o ⟨R, h, by omega, P⟩)))
    rw [nI_ltI (by omega) (by omega)] at c
    obtain ⟨n, rfl⟩ : ∃ m, n = m + 1 := ⟨n - 1, by omega⟩
    rw [nI_add]
    exact wb (V_goesOn P (by omega)) (fun t1 g1 => V_h42 I0 hN n (r + 1) fu (h + 1) t1 (o.tr g1.2.z) g1.1 (by omega) (by omega) (by omega))
theorem V_M_hours (I : IM t) : wp (M_hours x1 t) (fun v => IM v.2 ∧ SB t v.2) := by
  have I0 := I
  obtain ⟨⟨R, h, hh, P⟩, -⟩ := I
  unfold M_hours
  refine wbB (V_inN (a := 0) (c := 48) rfl rfl (by decide) (by decide)) (ws ⟨I0, SB.rf⟩) (fun q => ?_)
  obtain ⟨N, -, hN, rfl⟩ := q
  refine wm rfl (by decide) (by decide) (wi (fun _ => ws ⟨I0, SB.rf⟩) (fun c => wm rfl (by decide) (by decide) ?_))
  have e : t 11 49 = nI h := P.2.2.2
  rw [e, nI_add, nI_ltI (by decide) (by omega)] at c
  exact V_h42 I0 hN N 0 FU h t offZ.rf P (by omega) (by omega) (by show N < 100000; omega)
theorem V_M_see (I : IM t) : wp (M_see x1 x2 x3 t) (fun v => IM v.2 ∧ SB t v.2) := by
  have I0 := I
  obtain ⟨⟨R, h, hh, P⟩, i2, ⟨m, hm, em, S⟩, ⟨L, hL, eL⟩, i5, i6⟩ := I
  have h6 := P.2.1
  unfold M_see
  refine wbB (V_inN (a := 0) (c := 20) rfl rfl (by decide) (by decide)) (ws ⟨I0, SB.rf⟩) (fun _ => wbB (V_isRoom P) (ws ⟨I0, SB.rf⟩) (fun q => wbB (V_inN (a := 0) (c := 99) rfl rfl (by decide) (by decide)) (ws ⟨I0, SB.rf⟩) (fun _ => ?_)))
  obtain ⟨j, hj, rfl⟩ := q
  rw [em]
  refine wi (fun _ => ws ⟨I0, SB.rf⟩) (fun c => ?_)
  have hm6 : m ≠ 6 := fun e => c (by rw [e])
  refine wm (pk_mul 3 m) (by omega) (by decide) (wsb ?_)
  rw [up_p (by decide), em]
  refine wm (by rw [pk_mul, nI_add]) (show 3 * m + 1 < 18 by omega) (by decide) (wsb ?_)
  rw [up_p (by decide), up_p (by decide), em]
  refine wm (by rw [pk_mul, nI_add]) (show 3 * m + 2 < 18 by omega) (by decide) (wsb (wsb (ws ?_)))
  have e3 : up (up (up t 17 (3 * m) x1) 17 (3 * m + 1) (nI j)) 17 (3 * m + 2) x3 10 22 = nI m := by rw [up_p (by decide), up_p (by decide), up_p (by decide), em]
  rw [e3, nI_add]
  dsimp only
  have off : ∀ p k, p ≠ 17 → ¬ (p = 10 ∧ k = 22) → up (up (up (up t 17 (3 * m) x1) 17 (3 * m + 1) (nI j)) 17 (3 * m + 2) x3) 10 22 (nI (m + 1)) p k = t p k := fun p k a b => by
    rw [up, if_neg b, up_p a, up_p a, up_p a]
  refine ⟨⟨⟨R, h, hh, (off 10 1 (by decide) (by decide)).trans P.1, h6, P.2.2.1, (off 11 _ (by decide) (by decide)).trans P.2.2.2⟩, fun k hk => ?_, ⟨m + 1, by omega, up_eq, fun e he => ?_⟩, ⟨L, hL, (off 10 8 (by decide) (by decide)).trans eL⟩, fun k hk => ?_, i6.k ?_⟩, off 10 8 (by decide) (by decide), ?_, ?_⟩
  · rw [off 11 _ (by decide) (by omega)]; exact i2 k hk
  · rw [up_p (by decide)]
    by_cases q : e = m
    · subst q
      rw [up_k (by omega), up_eq]
      exact ⟨j, by omega, rfl⟩
    · rw [up_k (by omega), up_k (by omega), up_k (by omega)]
      exact S e (by omega)
  · rw [off 21 k (by decide) (by omega)]; exact i5 k hk
  · funext k; exact off 14 k (by decide) (by omega)
  · funext k; exact off 20 k (by decide) (by omega)
  · funext k; exact off 21 k (by decide) (by omega)
theorem V_M_forget (I : IM t) : wp (M_forget x1 t) (fun v => IM v.2 ∧ SB t v.2) := by
  have I0 := I
  obtain ⟨⟨R, h, hh, P⟩, i2, ⟨m, hm, em, S⟩, ⟨L, hL, eL⟩, i5, i6⟩ := I
  unfold M_forget
  rw [em]
  refine wbB (V_inN (a := 0) (c := m) rfl rfl (by decide) (by omega)) (ws ⟨I0, SB.rf⟩) (fun q => wsb (ws ?_))
  obtain ⟨j, -, hj, rfl⟩ := q
  dsimp only
  have off : ∀ p k, ¬ (p = 10 ∧ k = 22) → up t 10 22 (nI j) p k = t p k := fun p k b => if_neg b
  refine ⟨⟨⟨R, h, hh, (off 10 1 (by decide)).trans P.1, P.2.1, P.2.2.1, (off 11 _ (by omega)).trans P.2.2.2⟩, fun k hk => ?_, ⟨j, by omega, up_eq, fun e he => ?_⟩, ⟨L, hL, (off 10 8 (by decide)).trans eL⟩, fun k hk => ?_, i6.k ?_⟩, off 10 8 (by decide), ?_, ?_⟩
  · rw [off 11 _ (by omega)]; exact i2 k hk
  · rw [off 17 _ (by omega)]; exact S e (by omega)
  · rw [off 21 k (by omega)]; exact i5 k hk
  · funext k; exact off 14 k (by omega)
  · funext k; exact off 20 k (by omega)
  · funext k; exact off 21 k (by omega)
theorem V_M_keep (I : IM t) : wp (M_keep x1 t) (fun v => IM v.2 ∧ SB t v.2) := by
  have I0 := I
  obtain ⟨⟨R, h, hh, P⟩, i2, ⟨m, hm, em, S⟩, ⟨L, hL, eL⟩, i5, i6⟩ := I
  unfold M_keep
  refine wbB (V_inN (a := 0) (c := 1) rfl rfl (by decide) (by decide)) (ws ⟨I0, SB.rf⟩) (fun q => ?_)
  obtain ⟨j, -, hj, rfl⟩ := q
  rw [nI_add, pk_mul, copies_eq (by decide) (by omega) (by omega)]
  refine wsb ?_
  have e0 : (nI j) = nI j := rfl
  have w : ∀ y : Int32, wp (M_keep_37 (nI j) y (cpM t 0 (52 * (j + 1)) 52)) (fun v => IM v.2 ∧ SB t v.2) := fun y => by
    unfold M_keep_37
    refine wm rfl (by omega) (by decide) (wsb (ws ?_))
    dsimp only
    have off : ∀ p k, p ≠ 19 → ¬ (p = 11 ∧ 52 * (j + 1) ≤ k ∧ k < 52 * (j + 1) + 52) → up (cpM t 0 (52 * (j + 1)) 52) 19 j (vp_nar .boolean (nI 1)) p k = t p k := fun p k a b => by
      rw [up_p a, cpM, if_neg b]
    refine ⟨⟨⟨R, h, hh, (off 10 1 (by decide) (by omega)).trans P.1, P.2.1, P.2.2.1, (off 11 _ (by decide) (by omega)).trans P.2.2.2⟩, fun k hk => ?_, ⟨m, hm, (off 10 22 (by decide) (by omega)).trans em, fun e he => ?_⟩, ⟨L, hL, (off 10 8 (by decide) (by omega)).trans eL⟩, fun k hk => ?_, i6.k ?_⟩, off 10 8 (by decide) (by omega), ?_, ?_⟩
    · by_cases c : k = j
      · subst c
        refine ⟨h, hh, ?_⟩
        rw [up_p (by decide), cpM, if_pos ⟨rfl, by omega, by omega⟩, show 0 + (52 * (k + 1) + 49 - 52 * (k + 1)) = 0 + 49 by omega]
        exact P.2.2.2
      · rw [off 11 _ (by decide) (by omega)]; exact i2 k hk
    · rw [off 17 _ (by decide) (by omega)]; exact S e he
    · rw [off 21 k (by decide) (by omega)]; exact i5 k hk
    · funext k; exact off 14 k (by decide) (by omega)
    · funext k; exact off 20 k (by decide) (by omega)
    · funext k; exact off 21 k (by decide) (by omega)
  exact wm rfl (by omega) (by decide) (wi (fun _ => w _) (fun _ => w _))
theorem V_M_back (I : IM t) : wp (M_back x1 t) (fun v => IM v.2 ∧ SB t v.2) := by
  have I0 := I
  obtain ⟨⟨R, h, hh, P⟩, i2, -⟩ := I
  unfold M_back
  refine wbB (V_inN (a := 0) (c := 1) rfl rfl (by decide) (by decide)) (ws ⟨I0, SB.rf⟩) (fun q => ?_)
  obtain ⟨j, -, hj, rfl⟩ := q
  refine wm rfl (by omega) (by decide) (wi (fun _ => ws ⟨I0, SB.rf⟩) (fun _ => ?_))
  rw [nI_add, pk_mul, copies_eq (by omega) (by decide) (by omega)]
  refine wsb (wm rfl (by decide) (by decide) (ws ?_))
  obtain ⟨h', hh', e'⟩ := i2 j (by omega)
  have P' : PG t (52 * (j + 1)) R h' := ⟨P.1, P.2.1, by omega, e'⟩
  exact I0.z (fun p k a _ _ _ => if_neg (fun w => a ⟨w.1, Or.inl (by omega)⟩)) ⟨R, h', hh', cpM_pg P' (by decide)⟩
theorem V_sh56 {j : Nat} (hj : j < 4) : ∀ (n r fu : Nat) (t : sg), r + n = 40 → n < fu → wp (M_sheet_56 (nI j) fu (nI r) t) (fun v => v.1 = nI 1 ∧ ∀ p, p ≠ 22 → v.2 p = t p)
  | n, r, 0, t, hr, hf => absurd hf (by omega)
  | n, r, fu + 1, t, hr, hf => by
    rw [M_sheet_56]
    refine wi (fun c => ?_) (fun _ => ws ⟨rfl, fun _ _ => rfl⟩)
    rw [nI_ltI (by omega) (by decide)] at c
    obtain ⟨n, rfl⟩ : ∃ m, n = m + 1 := ⟨n - 1, by omega⟩
    refine wm (by rw [pk_mul, nI_add]) (show 40 * j + r < 160 by omega) (by decide) (wsb ?_)
    rw [nI_add]
    exact wc (V_sh56 hj n (r + 1) fu _ (by omega) (by omega)) (fun a ha => ⟨ha.1, fun p hp => (ha.2 p hp).trans (up_off hp)⟩)
theorem V_M_sheet (I : IM t) : wp (M_sheet x1 x2 x3 t) (fun v => IM v.2 ∧ v.2 10 8 = t 10 8) := by
  have I0 := I
  obtain ⟨⟨R, h, hh, P⟩, i2, i3, i4, i5, i6⟩ := I
  unfold M_sheet
  refine wbB (V_inN (a := 0) (c := 3) rfl rfl (by decide) (by decide)) (ws ⟨I0, rfl⟩) (fun q => wbB (V_inN (a := 0) (c := 2) rfl rfl (by decide) (by decide)) (ws ⟨I0, rfl⟩) (fun q2 => wi (fun _ => ws ⟨I0, rfl⟩) (fun c => wi (fun _ => ws ⟨I0, rfl⟩) (fun c2 => ?_))))
  obtain ⟨j, -, hj, rfl⟩ := q
  obtain ⟨n, hn, rfl⟩ := nI_of c2
  rw [nI_ltI (by decide) hn] at c
  refine wm rfl (by omega) (by decide) (wsb (wm rfl (by omega) (by decide) (wsb ?_)))
  refine wc (V_sh56 (by omega) 40 0 FU _ (by omega) (by decide)) (fun v hv => ?_)
  have off : ∀ p, p ≠ 20 → p ≠ 21 → p ≠ 22 → v.2 p = t p := fun p a b c => by
    rw [hv.2 p c, up_off b, up_off a]
  refine ⟨⟨⟨R, h, hh, by rw [off 10 (by decide) (by decide) (by decide)]; exact P.1, P.2.1, P.2.2.1, by rw [off 11 (by decide) (by decide) (by decide)]; exact P.2.2.2⟩, fun k hk => ?_, ?_, by rw [off 10 (by decide) (by decide) (by decide)]; exact i4, fun k hk => ?_, i6.k (off 14 (by decide) (by decide) (by decide))⟩, by rw [off 10 (by decide) (by decide) (by decide)]⟩
  · rw [off 11 (by decide) (by decide) (by decide)]; exact i2 k hk
  · unfold SN
    rw [off 10 (by decide) (by decide) (by decide), off 17 (by decide) (by decide) (by decide)]; exact i3
  · rw [hv.2 21 (by decide)]
    by_cases e : k = j
    · subst e; exact ⟨n, by omega, up_eq⟩
    · rw [up_k e, up_p (by decide)]; exact i5 k hk
theorem V_M_lay (I : IM t) : wp (M_lay x1 x2 x3 t) (fun v => IM v.2 ∧ SB t v.2) := by
  have I0 := I
  obtain ⟨⟨R, h, hh, P⟩, i2, i3, i4, i5, i6⟩ := I
  unfold M_lay
  refine wbB (V_inN (a := 0) (c := 3) rfl rfl (by decide) (by decide)) (ws ⟨I0, SB.rf⟩) (fun q => ?_)
  obtain ⟨j, -, hj, rfl⟩ := q
  obtain ⟨n, hn, en⟩ := i5 j (by omega)
  refine wm rfl (by omega) (by decide) (wi (fun _ => ws ⟨I0, SB.rf⟩) (fun _ => wm rfl (by omega) (by decide) ?_))
  rw [en]
  refine wbB (V_in (lo := nI 0) (hi := nI n - nI 1) rfl rfl) (ws ⟨I0, SB.rf⟩) (fun q2 => ?_)
  obtain ⟨i, hi, rfl⟩ := nI_of (x := x2) q2.1
  have hi2 : i < 40 := by
    have q3 := q2.2
    rw [Int32.lt_iff_toInt_lt, pk_sub_toInt (by omega) (by decide), nI_toInt hi] at q3
    omega
  have w : ∀ y : Int32, wp (M_lay_99 y (nI 40 * nI j + nI i) t) (fun v => IM v.2 ∧ SB t v.2) := fun y => by
    unfold M_lay_99
    refine wm (by rw [pk_mul, nI_add]) (show 40 * j + i < 160 by omega) (by decide) (wsb (ws ?_))
    dsimp only
    have off : ∀ p, p ≠ 22 → up t 22 (40 * j + i) y p = t p := fun p a => up_off a
    refine ⟨⟨⟨R, h, hh, by rw [off 10 (by decide)]; exact P.1, P.2.1, P.2.2.1, by rw [off 11 (by decide)]; exact P.2.2.2⟩, fun k hk => ?_, ?_, by rw [off 10 (by decide)]; exact i4, fun k hk => ?_, i6.k (off 14 (by decide))⟩, by rw [off 10 (by decide)], off 20 (by decide), off 21 (by decide)⟩
    · rw [off 11 (by decide)]; exact i2 k hk
    · unfold SN
      rw [off 10 (by decide), off 17 (by decide)]; exact i3
    · rw [off 21 (by decide)]; exact i5 k hk
  exact wm rfl (by omega) (by decide) (wi (fun _ => w _) (fun _ => wm rfl (by omega) (by decide) (wi (fun _ => w _) (fun _ => w _))))
theorem rd_in {q n : Nat} (hq : q < 1000) (hn : n ≤ 40) (h1 : ¬ x.toInt64 + (nI q).toInt64 < (0 : Int64)) (h2 : ¬ (nI n - nI 1).toInt64 < x.toInt64 + (nI q).toInt64) : ∃ i : Nat, i < n ∧ x + nI q = nI i := by
  have a1 := Int32.minValue_le_toInt x
  have a2 := Int32.toInt_le x
  have e1 : Int32.minValue.toInt = -2147483648 := by decide
  have e2 : Int32.maxValue.toInt = 2147483647 := by decide
  rw [e1] at a1
  rw [e2] at a2
  have es : (x.toInt64 + (nI q).toInt64).toInt = x.toInt + q := by
    rw [Int64.toInt_add, Int32.toInt_toInt64, Int32.toInt_toInt64, nI_toInt (by omega)]
    exact Int.bmod_eq_of_le (by omega) (by omega)
  rw [Int64.lt_iff_toInt_lt, es] at h1
  rw [Int64.lt_iff_toInt_lt, es, Int32.toInt_toInt64, pk_sub_toInt (by omega) (by decide)] at h2
  have e0 : (0 : Int64).toInt = 0 := by decide
  rw [e0] at h1
  refine ⟨(x.toInt + q).toNat, by omega, Int32.toInt_inj.mp ?_⟩
  rw [Int32.toInt_add, nI_toInt (by omega), nI_toInt (by omega), Int.bmod_eq_of_le (by omega) (by omega)]
  omega
theorem V_rd56 {a N h0 : Nat} {t0 : sg} (I0 : IM t0) (ha : a < 4) (hN : N ≤ 20) (hh0 : h0 ≤ 999) : ∀ (n q fu h : Nat) (x5 x6 : Int32) (t : sg), offZ t0 t → PG t 0 R h → h ≤ 999 → PG t 156 R h0 → (x5 = 0 → q = 0 ∨ ∃ i : Nat, i < 40 ∧ x3 + nI (q - 1) = nI i) → q + n = 2 * N → n < fu → wp (M_read_56 (nI a) x2 x3 (nI N) fu x5 x6 (nI q) t) (fun v => IM v.2 ∧ SB t0 v.2)
  | n, q, 0, h, x5, x6, t, o, P, hh, P2, hq, hr, hf => absurd hf (by omega)
  | n, q, fu + 1, h, x5, x6, t, o, P, hh, P2, hq, hr, hf => by
    have fin : ∀ y5 y6 : Int32, wp (M_read_228 y5 y6 t) (fun v => IM v.2 ∧ SB t0 v.2) := fun y5 y6 => by
      unfold M_read_228
      refine wsb (ws ?_)
      dsimp only
      exact I0.z (fun p k b1 b2 b3 b4 => by rw [up, if_neg (fun w => b4 ⟨w.1, by omega⟩)]; exact o p k b1 b2 b3 b4) ⟨R, h, hh, (up_k (by decide)).trans P.1, P.2.1, P.2.2.1, (up_p (by decide)).trans P.2.2.2⟩
    rw [M_read_56, pk_mul]
    refine wi (fun c => wi (fun c5 => ?_) (fun _ => fin _ _)) (fun _ => fin _ _)
    rw [nI_ltI (by omega) (by omega)] at c
    obtain ⟨n, rfl⟩ : ∃ m, n = m + 1 := ⟨n - 1, by omega⟩
    have hq0 := hq c5
    have bad : ∀ y : Int32, ¬ y = 0 → wp (M_read_126 (M_read_56 (nI a) x2 x3 (nI N) fu) (nI a) x2 x3 (nI N) x6 (nI q) y t) (fun v => IM v.2 ∧ SB t0 v.2) := fun y hy => by
      unfold M_read_126
      refine wi (fun e => absurd e hy) (fun _ => ?_)
      rw [nI_add]
      exact V_rd56 I0 ha hN hh0 n (q + 1) fu h _ _ t o P hh P2 (fun e => absurd e hy) (by omega) (by omega)
    refine wm rfl (by omega) (by decide) (wi (fun _ => bad _ (by decide)) (fun _ => wm rfl (by omega) (by decide) (wi (fun _ => wm rfl (by omega) (by decide) ?_) (fun _ => bad _ (by decide)))))
    have It := I0.z o ⟨R, h, hh, P⟩
    obtain ⟨m, hm, em⟩ := It.1.2.2.2.2.1 a ha
    rw [em]
    unfold M_in
    by_cases g1 : x3.toInt64 + (nI q).toInt64 < (0 : Int64)
    · rw [if_pos g1]; exact bad (nI 2) (by decide)
    · rw [if_neg g1]
      by_cases g2 : (nI m - nI 1).toInt64 < x3.toInt64 + (nI q).toInt64
      · rw [if_pos g2]; exact bad (nI 2) (by decide)
      · rw [if_neg g2]
        obtain ⟨i, hi, ei⟩ := rd_in (by omega) hm g1 g2
        show wp (M_read_126 (M_read_56 (nI a) x2 x3 (nI N) fu) (nI a) x2 x3 (nI N) x6 (nI q) (nI 0) t) (fun v => IM v.2 ∧ SB t0 v.2)
        unfold M_read_126
        refine wi (fun _ => wi (fun codd => ?_) (fun _ => ?_)) (fun e => absurd rfl e)
        · have hq1 : q ≠ 0 := fun e => by
            rw [e] at codd; exact absurd codd (by decide)
          obtain ⟨i', hi', ei'⟩ := hq0.resolve_left hq1
          have ix2 : nI 40 * nI a + x3 + nI q = nI (40 * a + i) := by
            rw [Int32.add_assoc, ei, pk_mul, nI_add]
          have ix1 : nI 40 * nI a + x3 + nI q - nI 1 = nI (40 * a + i') := by
            rw [Int32.sub_eq_add_neg, Int32.add_assoc, Int32.add_assoc, ← Int32.sub_eq_add_neg, pk_sub (by omega), ei', pk_mul, nI_add]
          refine wm ix1 (by omega) (by decide) (wm ix2 (by omega) (by decide) (wb (V_marks P) (fun v hv => ?_)))
          have hv3 : offZ t0 v.2 ∧ PG v.2 0 R h ∧ PG v.2 156 R h0 := by
            rcases hv with e | ⟨j, w, hj, e⟩
            · rw [e]; exact ⟨o, P, P2⟩
            · rw [e]; exact ⟨o.tr (offZ.u (by omega)), P.at (by omega), P2.at (by omega)⟩
          obtain ⟨o3, P3, P4⟩ := hv3
          have back : wp (M_read_192 (M_read_56 (nI a) x2 x3 (nI N) fu) (nI a) x2 x3 (nI N) (nI 0) x6 (nI q) v.2) (fun v => IM v.2 ∧ SB t0 v.2) := by
            unfold M_read_192 M_read_193
            rw [if_pos (show nI 0 = 0 from rfl), copies_eq (by decide) (by decide) (by decide)]
            refine wsb (ws ?_)
            exact I0.z (fun p k b1 b2 b3 b4 => by
              show cpM v.2 156 0 52 p k = t0 p k
              rw [cpM, if_neg (fun w => b1 ⟨w.1, Or.inl (by omega)⟩)]; exact o3 p k b1 b2 b3 b4) ⟨R, h0, hh0, cpM_pg P4 (by decide)⟩
          refine wi (fun _ => back) (fun _ => wm rfl (by decide) (by decide) (wi (fun c9 => ?_) (fun _ => back)))
          have e49 : v.2 11 49 = nI h := P3.2.2.2
          rw [e49, nI_ltI (by omega) (by decide)] at c9
          unfold M_read_193
          rw [if_neg (by decide), nI_add]
          exact wb (V_goesOn P3 (by omega)) (fun t1 g1 => V_rd56 I0 ha hN hh0 n (q + 1) fu (h + 1) _ _ t1 (o3.tr g1.2.z) g1.1 (by omega) ⟨g1.1.1, P4.2.1, P4.2.2.1, (g1.2 11 _ (by omega) (by decide)).trans P4.2.2.2⟩ (fun _ => Or.inr ⟨i, by omega, by rw [show q + 1 - 1 = q by omega]; exact ei⟩) (by omega) (by omega))
        · rw [nI_add]
          exact V_rd56 I0 ha hN hh0 n (q + 1) fu h _ _ t o P hh P2 (fun _ => Or.inr ⟨i, by omega, by rw [show q + 1 - 1 = q by omega]; exact ei⟩) (by omega) (by omega)
theorem V_M_read (I : IM t) : wp (M_read x1 x2 x3 x4 t) (fun v => IM v.2 ∧ SB t v.2) := by
  have I0 := I
  obtain ⟨⟨R, h, hh, P⟩, -⟩ := I
  unfold M_read
  refine wbB (V_inN (a := 0) (c := 3) rfl rfl (by decide) (by decide)) (ws ⟨I0, SB.rf⟩) (fun q => wbB (V_inN (a := 0) (c := 2) rfl rfl (by decide) (by decide)) (ws ⟨I0, SB.rf⟩) (fun _ => wbB (V_inN (a := 0) (c := 20) rfl rfl (by decide) (by decide)) (ws ⟨I0, SB.rf⟩) (fun q3 => ?_)))
  obtain ⟨a, -, ha, rfl⟩ := q
  obtain ⟨N, -, hN, rfl⟩ := q3
  refine wb (V_copies (b := 156) P (by decide) (by decide) (by decide)) (fun t1 g1 => ?_)
  exact V_rd56 I0 (by omega) hN hh (2 * N) 0 FU h _ _ t1 g1.2.z (P.m g1.2 (by decide)) hh g1.1 (fun _ => Or.inl rfl) (by omega) (by show 2 * N < 100000; omega)
theorem V_ct38 (P : PG t 0 R h) : ∀ (n r fu : Nat) (x3 : Int32), r + n = R → n < fu → wp (M_count_38 x1 x2 t fu x3 (nI r)) (fun _ => True)
  | n, r, 0, x3, hr, hf => absurd hf (by omega)
  | n, r, fu + 1, x3, hr, hf => by
    have h6 := P.2.1
    rw [M_count_38, P.1]
    refine wi (fun c => ?_) (fun _ => wi (fun _ => ws trivial) (fun _ => wi (fun _ => ?_) (fun _ => wi (fun _ => ws trivial) (fun _ => wi (fun _ => wm rfl (by decide) (by decide) (wi (fun _ => ws trivial) (fun _ => wm rfl (by decide) (by decide) (ws trivial)))) (fun _ => wi (fun _ => ws trivial) (fun _ => wi (fun _ => ws trivial) (fun _ => ws trivial)))))))
    · rw [nI_m1 (by omega) (by omega)] at c
      obtain ⟨n, rfl⟩ : ∃ m, n = m + 1 := ⟨n - 1, by omega⟩
      rw [nI_add, nI_add]
      exact wm rfl (by omega) (by decide) (V_ct38 P n (r + 1) fu _ (by omega) (by omega))
    · unfold M_count_127
      exact wm rfl (by decide) (by decide) (wi (fun _ => wm rfl (by decide) (by decide) (wi (fun _ => ws trivial) (fun _ => ws trivial))) (fun _ => wm rfl (by decide) (by decide) (wi (fun _ => ws trivial) (fun _ => ws trivial))))
theorem V_ct7 (P : PG t 0 R h) : ∀ (n r fu : Nat) (x2 : Int32), r + n = R → n < fu → wp (M_count_7 x1 x3 t fu x2 (nI r)) (fun _ => True)
  | n, r, 0, x2, hr, hf => absurd hf (by omega)
  | n, r, fu + 1, x2, hr, hf => by
    have h6 := P.2.1
    rw [M_count_7, P.1]
    refine wi (fun c => ?_) (fun _ => V_ct38 P R 0 FU _ (by omega) (by show R < 100000; omega))
    rw [nI_ltI (by omega) (by omega)] at c
    obtain ⟨n, rfl⟩ : ∃ m, n = m + 1 := ⟨n - 1, by omega⟩
    rw [nI_add, nI_add]
    exact wm rfl (by omega) (by decide) (V_ct7 P n (r + 1) fu _ (by omega) (by omega))
theorem V_M_count (I : IM t) : wp (M_count x1 t) (fun _ => True) := by
  obtain ⟨⟨R, h, hh, P⟩, -⟩ := I
  unfold M_count
  exact V_ct7 P R 0 FU _ (by omega) (by have := P.2.1; show R < 100000; omega)
end MCALLS
end Q55
