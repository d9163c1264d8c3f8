/-! the reference: hours on a page -/
def PG (t : sg) (g R h : Nat) : Prop := t 10 1 = nI R ∧ R ≤ 6 ∧ g + 52 ≤ 312 ∧ t 11 (g + 49) = nI h
def offP (g : Nat) (t t' : sg) : Prop := ∀ p k, ¬ (p = 11 ∧ g ≤ k ∧ k < g + 52) → p ≠ 16 → t' p k = t p k
theorem offP.rf {g : Nat} {t : sg} : offP g t t := fun _ _ _ _ => rfl
theorem offP.tr {g : Nat} {t t' t'' : sg} (h1 : offP g t t') (h2 : offP g t' t'') : offP g t t'' := fun p k a b => (h2 p k a b).trans (h1 p k a b)
/-- besides, the hour is as it was -/
def offQ (g : Nat) (t t' : sg) : Prop := offP g t t' ∧ t' 11 (g + 49) = t 11 (g + 49)
theorem offQ.rf {g : Nat} {t : sg} : offQ g t t := ⟨offP.rf, rfl⟩
theorem offQ.tr {g : Nat} {t t' t'' : sg} (h1 : offQ g t t') (h2 : offQ g t' t'') : offQ g t t'' := ⟨h1.1.tr h2.1, h2.2.trans h1.2⟩
theorem offQ.u11 {g k : Nat} {t : sg} {v : Int32} (h : g ≤ k ∧ k < g + 52 ∧ k ≠ g + 49) : offQ g t (up t 11 k v) :=
  ⟨fun p j a b => if_neg (fun w => a ⟨w.1, by omega, by omega⟩), if_neg (fun w => by omega)⟩
theorem offQ.u16 {g k : Nat} {t : sg} {v : Int32} : offQ g t (up t 16 k v) :=
  ⟨fun p j a b => if_neg (fun w => b w.1), if_neg (fun w => absurd w.1 (by decide))⟩
theorem PG.q {t t' : sg} {g R h : Nat} (P : PG t g R h) (o : offQ g t t') : PG t' g R h := ⟨(o.1 10 1 (by omega) (by decide)).trans P.1, P.2.1, P.2.2.1, o.2.trans P.2.2.2⟩
section PAGE
variable {t : sg} {g R h : Nat} {x x1 x2 x3 : Int32}
theorem V_lowOn {r : Nat} (P : PG t g R h) (hr : r < 6) : wp (M_lowOn (nI g) (nI r) t) (fun _ => True) := by
  have := P.2.2.1
  unfold M_lowOn
  simp only [nI_add]
  exact wm rfl (by omega) (by decide) (wm rfl (by omega) (by decide) (wi (fun _ => ws trivial) (fun _ => wi (fun _ => ws trivial) (fun _ => ws trivial))))
theorem V_highOn {r : Nat} (P : PG t g R h) (hr : r < 6) : wp (M_highOn (nI g) (nI r) t) (fun _ => True) := by
  have := P.2.2.1
  unfold M_highOn
  simp only [nI_add]
  exact wm rfl (by omega) (by decide) (wm rfl (by omega) (by decide) (wi (fun _ => ws trivial) (fun _ => wi (fun _ => ws trivial) (fun _ => ws trivial))))
theorem V_ton2 : ∀ (n r fu : Nat) (t : sg), PG t g R h → r + n = R → n < fu → wp (M_tonguesOn_2 (nI g) fu (nI r) t) (offQ g t)
  | n, r, 0, t, P, hr, hf => absurd hf (by omega)
  | n, r, fu + 1, t, P, hr, hf => by
    have h6 := P.2.1
    have hg := P.2.2.1
    rw [M_tonguesOn_2, P.1]
    simp only [nI_add]
    refine wi (fun c => ?_) (fun _ => ws offQ.rf)
    rw [nI_ltI (by omega) (by omega)] at c
    obtain ⟨n, rfl⟩ : ∃ m, n = m + 1 := ⟨n - 1, by omega⟩
    have k : ∀ t', offQ g t t' → wp (M_tonguesOn_2 (nI g) fu (nI (r + 1)) t') (offQ g t) := fun t' o => wc (V_ton2 n (r + 1) fu t' (P.q o) (by omega) (by omega)) (fun a ha => o.tr ha)
    have w132 : ∀ y4 y0 y1 : Int32, wp (M_tonguesOn_132 (M_tonguesOn_2 (nI g) fu) (nI g) (nI r) y4 y0 y1 (nI (g + 51)) t) (offQ g t) := fun y4 y0 y1 => by
      unfold M_tonguesOn_132
      simp only [nI_add]
      exact wm rfl (by omega) (by decide) (wsb (wm rfl (by omega) (by decide) (wsb (k _ ((offQ.u11 (by omega)).tr (offQ.u11 (by omega)))))))
    have w110 : ∀ y4 y0 : Int32, wp (M_tonguesOn_110 (M_tonguesOn_2 (nI g) fu) (nI g) (nI r) y4 y0 t) (offQ g t) := fun y4 y0 => by
      unfold M_tonguesOn_110
      simp only [nI_add]
      exact wm rfl (by omega) (by decide) (wi (fun _ => w132 _ _ _) (fun _ => w132 _ _ _))
    have w72 : ∀ y0 : Int32, wp (M_tonguesOn_72 (M_tonguesOn_2 (nI g) fu) (nI g) (nI r) y0 t) (offQ g t) := fun y0 => by
      unfold M_tonguesOn_72 M_tonguesOn_109
      simp only [nI_add]
      exact wm rfl (by omega) (by decide) (wi (fun _ => w110 _ _) (fun _ => wm rfl (by omega) (by decide) (wi (fun _ => w110 _ _) (fun _ => w110 _ _))))
    refine wm rfl (by omega) (by decide) (wi (fun _ => ?_) (fun _ => k _ offQ.rf))
    refine wm rfl (by omega) (by decide) (wb (V_lowOn P (by omega)) (fun v _ => wi (fun _ => wb (V_highOn P (by omega)) (fun v2 _ => ?_)) (fun _ => w72 _)))
    exact wi (fun _ => wm rfl (by omega) (by decide) (w72 _)) (fun _ => w72 _)
theorem V_tonguesOn (P : PG t g R h) : wp (M_tonguesOn (nI g) t) (offQ g t) := by
  unfold M_tonguesOn
  exact V_ton2 R 0 FU t P (by omega) (by have := P.2.1; show R < 100000; omega)
theorem V_h222 : ∀ (n r fu : Nat) (t : sg), PG t g R h → r + n = R → n < fu → wp (M_hourOn_222 (nI g) fu (nI r) t) (fun t' => PG t' g R (h + 1) ∧ offP g t t')
  | n, r, 0, t, P, hr, hf => absurd hf (by omega)
  | n, r, fu + 1, t, P, hr, hf => by
    have h6 := P.2.1
    have hg := P.2.2.1
    rw [M_hourOn_222, P.1]
    simp only [nI_add]
    refine wi (fun c => ?_) (fun _ => wm rfl (by omega) (by decide) (wm rfl (by omega) (by decide) (wsb (ws ⟨⟨?_, h6, hg, ?_⟩, fun p j a b => if_neg (fun w => a ⟨w.1, by omega, by omega⟩)⟩))))
    · rw [nI_ltI (by omega) (by omega)] at c
      obtain ⟨n, rfl⟩ : ∃ m, n = m + 1 := ⟨n - 1, by omega⟩
      have w : ∀ y0 : Int32, wp (M_hourOn_281 (M_hourOn_222 (nI g) fu) (nI g) (nI r) y0 (nI (g + r)) t) (fun t' => PG t' g R (h + 1) ∧ offP g t t') := fun y0 => by
        unfold M_hourOn_281
        simp only [nI_add]
        have o : offQ g t (up t 11 (g + r) y0) := offQ.u11 (by omega)
        exact wm rfl (by omega) (by decide) (wsb (wc (V_h222 n (r + 1) fu _ (P.q o) (by omega) (by omega)) (fun a ha => ⟨ha.1, o.1.tr ha.2⟩)))
      exact wm rfl (by omega) (by decide) (wm rfl (by omega) (by decide) (wi (fun _ => w _) (fun _ => wi (fun _ => w _) (fun _ => w _))))
    · rw [up_p (by decide)]; exact P.1
    · rw [up_eq, P.2.2.2, nI_add]
theorem V_h135 : ∀ (n r fu : Nat) (t : sg), PG t g R h → r + n = R → n < fu → wp (M_hourOn_135 (nI g) fu (nI r) t) (fun t' => PG t' g R (h + 1) ∧ offP g t t')
  | n, r, 0, t, P, hr, hf => absurd hf (by omega)
  | n, r, fu + 1, t, P, hr, hf => by
    have h6 := P.2.1
    have hg := P.2.2.1
    rw [M_hourOn_135, P.1]
    refine wi (fun c => ?_) (fun _ => V_h222 R 0 FU t P (by omega) (by show R < 100000; omega))
    rw [nI_m1 (by omega) (by omega)] at c
    obtain ⟨n, rfl⟩ : ∃ m, n = m + 1 := ⟨n - 1, by omega⟩
    simp only [nI_add]
    refine wm rfl (by omega) (by decide) (wm rfl (by omega) (by decide) (wm rfl (by omega) (by decide) (wm rfl (by omega) (by decide) (wm rfl (by omega) (by decide) (wsb (wm rfl (by omega) (by decide) (wm rfl (by omega) (by decide) (wsb ?_))))))))
    have o : ∀ v w : Int32, offQ g t (up (up t 16 r v) 16 (r + 1) w) := fun v w => offQ.u16.tr offQ.u16
    exact wc (V_h135 n (r + 1) fu _ (P.q (o _ _)) (by omega) (by omega)) (fun a ha => ⟨ha.1, (o _ _).1.tr ha.2⟩)
theorem V_h8 : ∀ (n r fu : Nat) (t : sg), PG t g R h → r + n = R → n < fu → wp (M_hourOn_8 (nI g) x2 x3 fu (nI r) t) (fun t' => PG t' g R (h + 1) ∧ offP g t t')
  | n, r, 0, t, P, hr, hf => absurd hf (by omega)
  | n, r, fu + 1, t, P, hr, hf => by
    have h6 := P.2.1
    have hg := P.2.2.1
    rw [M_hourOn_8, P.1]
    simp only [nI_add]
    refine wi (fun c => ?_) (fun _ => V_h135 R 0 FU t P (by omega) (by show R < 100000; omega))
    rw [nI_ltI (by omega) (by omega)] at c
    obtain ⟨n, rfl⟩ : ∃ m, n = m + 1 := ⟨n - 1, by omega⟩
    have k : ∀ t', offQ g t t' → wp (M_hourOn_8 (nI g) x2 x3 fu (nI (r + 1)) t') (fun t' => PG t' g R (h + 1) ∧ offP g t t') := fun t' o => wc (V_h8 n (r + 1) fu t' (P.q o) (by omega) (by omega)) (fun a ha => ⟨ha.1, o.1.tr ha.2⟩)
    have w : ∀ (y0 y1 : Int32) (t' : sg), offQ g t t' → wp (M_hourOn_124 (M_hourOn_8 (nI g) x2 x3 fu) (nI g) x2 x3 (nI r) y0 y1 (nI (g + 50)) t') (fun t' => PG t' g R (h + 1) ∧ offP g t t') := fun y0 y1 t' o => by
      unfold M_hourOn_124
      simp only [nI_add]
      exact wm rfl (by omega) (by decide) (wsb (k _ (o.tr (offQ.u11 (by omega)))))
    refine wm rfl (by omega) (by decide) (wm rfl (by omega) (by decide) (wm rfl (by omega) (by decide) (wsb (wm rfl (by omega) (by decide) (wi (fun _ => wi (fun _ => ?_) (fun _ => k _ offQ.u16)) (fun _ => k _ offQ.u16))))))
    refine wm rfl (by omega) (by decide) (wm rfl (by omega) (by decide) (wm rfl (by omega) (by decide) (wsb (wm rfl (by omega) (by decide) (wm rfl (by omega) (by decide) ?_)))))
    exact wi (fun _ => w _ _ _ (offQ.u16.tr offQ.u16)) (fun _ => w _ _ _ (offQ.u16.tr offQ.u16))
theorem V_hourOn (P : PG t g R h) : wp (M_hourOn (nI g) x2 x3 t) (fun t' => PG t' g R (h + 1) ∧ offP g t t') := by
  unfold M_hourOn
  exact wb (V_tonguesOn P) (fun t1 o => wc (V_h8 R 0 FU t1 (P.q o) (by omega) (by have := P.2.1; show R < 100000; omega)) (fun a ha => ⟨ha.1, o.1.tr ha.2⟩))
theorem V_outOn (P : PG t g R h) (hh : h < 2 ^ 30) : wp (M_outOn (nI g) t) (fun _ => True) := by
  have hg := P.2.2.1
  unfold M_outOn
  simp only [nI_add]
  refine wm rfl (by omega) (by decide) ?_
  rw [P.2.2.2, rem8 hh, nI_add]
  have := Nat.mod_lt h (show 0 < 8 by decide)
  exact wm rfl (by omega) (by decide) (ws trivial)
theorem V_goesOn (P : PG t g R h) (hh : h < 2 ^ 30) : wp (M_goesOn (nI g) t) (fun t' => PG t' g R (h + 1) ∧ offP g t t') := by
  unfold M_goesOn
  exact wb (V_outOn P hh) (fun v _ => wb (V_hourOn P) (fun t1 h1 => ws h1))
end PAGE
