/-! the reference's calls: they end and keep what is kept -/
def IM (t : sg) : Prop := (∃ R h : Nat, h ≤ 999 ∧ PG t 0 R h) ∧ (∀ k : Nat, k < 2 → ∃ h : Nat, h ≤ 999 ∧ t 11 (52 * (k + 1) + 49) = nI h) ∧ SN t ∧ (∃ L : Nat, L ≤ 160 ∧ t 10 8 = nI L) ∧ (∀ k : Nat, k < 4 → ∃ n : Nat, n ≤ 40 ∧ t 21 k = nI n) ∧ EN t
def SB (t t' : sg) : Prop := t' 10 8 = t 10 8 ∧ t' 20 = t 20 ∧ t' 21 = t 21
theorem SB.rf {t : sg} : SB t t := ⟨rfl, rfl, rfl⟩
def offZ (t t' : sg) : Prop := ∀ p k, ¬ (p = 11 ∧ (k < 52 ∨ 156 ≤ k)) → p ≠ 16 → p ≠ 18 → ¬ (p = 10 ∧ (k = 19 ∨ k = 20 ∨ k = 28)) → t' p k = t p k
theorem offZ.rf {t : sg} : offZ t t := fun _ _ _ _ _ _ => rfl
theorem offZ.tr {t t' t'' : sg} (h1 : offZ t t') (h2 : offZ t' t'') : offZ t t'' := fun p k a b c d => (h2 p k a b c d).trans (h1 p k a b c d)
theorem offM.z {t t' : sg} (o : offM t t') : offZ t t' := fun p k a b c d => o p k (fun w => a ⟨w.1, Or.inr w.2⟩) b c (fun w => d ⟨w.1, by omega⟩)
theorem offP.z {t t' : sg} (o : offP 0 t t') : offZ t t' := fun p k a b _ _ => o p k (fun w => a ⟨w.1, Or.inl (by omega)⟩) b
theorem offZ.u {t : sg} {k : Nat} {v : Int32} (hk : k < 52) : offZ t (up t 11 k v) := fun p j a _ _ _ => if_neg (fun w => a ⟨w.1, by omega⟩)
theorem SN.z {t t' : sg} (S : SN t) (o : offZ t t') : SN t' := by
  obtain ⟨m, hm, e, S⟩ := S
  refine ⟨m, hm, (o 10 22 (by omega) (by decide) (by decide) (by omega)).trans e, fun i hi => ?_⟩
  rw [o 17 _ (by omega) (by decide) (by decide) (by omega)]
  exact S i hi
theorem IM.z {t t' : sg} (I : IM t) (o : offZ t t') (N : ∃ R h : Nat, h ≤ 999 ∧ PG t' 0 R h) : IM t' ∧ SB t t' := by
  obtain ⟨-, i2, i3, i4, i5, i6⟩ := I
  refine ⟨⟨N, fun k hk => ?_, i3.z o, ?_, fun k hk => ?_, i6.k ?_⟩, ?_, ?_, ?_⟩
  · rw [o 11 _ (by omega) (by decide) (by decide) (by omega)]; exact i2 k hk
  · rw [o 10 8 (by omega) (by decide) (by decide) (by omega)]; exact i4
  · rw [o 21 k (by omega) (by decide) (by decide) (by omega)]; exact i5 k hk
  · funext k; exact o 14 k (by omega) (by decide) (by decide) (by omega)
  · exact o 10 8 (by omega) (by decide) (by decide) (by omega)
  · funext k; exact o 20 k (by omega) (by decide) (by decide) (by omega)
  · funext k; exact o 21 k (by omega) (by decide) (by decide) (by omega)
theorem IM.m {t t' : sg} (I : IM t) (o : offM t t') : IM t' ∧ SB t t' := by
  obtain ⟨R, h, hh, P⟩ := I.1
  exact I.z o.z ⟨R, h, hh, P.m o (by decide)⟩
section MCALLS
variable {t : sg} {R h : Nat} {x x1 x2 x3 x4 x5 : Int32}
theorem V_M_feed (I : IM t) : wp (M_feed x1 t) (fun v => IM v.2 ∧ v.2 20 = t 20 ∧ v.2 21 = t 21) := by
  have I0 := I
  obtain ⟨⟨R, h, hh, P⟩, i2, i3, ⟨L, hL, eL⟩, i5, i6⟩ := I
  unfold M_feed
  refine wbB (V_inN (a := 0) (c := 127) rfl rfl (by decide) (by decide)) (ws ⟨I0, rfl, rfl⟩) (fun _ => ?_)
  rw [eL]
  refine wi (fun _ => ws ⟨I0, rfl, rfl⟩) (fun c => ?_)
  have hL2 : L ≠ 160 := fun e => c (by rw [e])
  refine wm rfl (by omega) (by decide) (wsb (wsb (ws ?_)))
  have e8 : up t 13 L x1 10 8 = nI L := by rw [up_p (by decide), eL]
  rw [e8, nI_add]
  dsimp only
  refine ⟨⟨⟨R, h, hh, ?_, P.2.1, P.2.2.1, ?_⟩, fun k hk => ?_, ?_, ⟨L + 1, by omega, up_eq⟩, fun k hk => ?_, i6.k ?_⟩, ?_, ?_⟩
  · rw [up_k (by decide), up_p (by decide)]; exact P.1
  · rw [up_p (by decide), up_p (by decide)]; exact P.2.2.2
  · rw [up_p (by decide), up_p (by decide)]; exact i2 k hk
  · obtain ⟨m, hm, e, S⟩ := i3
    refine ⟨m, hm, ?_, fun i hi => ?_⟩
    · rw [up_k (by decide), up_p (by decide)]; exact e
    · rw [up_p (by decide), up_p (by decide)]; exact S i hi
  · rw [up_p (by decide), up_p (by decide)]; exact i5 k hk
  · rw [up14 (by decide), up14 (by decide)]
  · funext k; rw [up_p (by decide), up_p (by decide)]
  · funext k; rw [up_p (by decide), up_p (by decide)]
theorem V_M_end (I : IM t) : wp (M_end x1 t) (fun v => IM v.2 ∧ v.2 20 = t 20 ∧ v.2 21 = t 21) := by
  have I0 := I
  obtain ⟨⟨R, h, hh, P⟩, i2, i3, ⟨L, hL, eL⟩, i5, i6⟩ := I
  unfold M_end
  rw [eL]
  refine wbB (V_inN (a := 0) (c := L) rfl rfl (by decide) (by omega)) (ws ⟨I0, rfl, rfl⟩) (fun q => wsb (ws ?_))
  obtain ⟨j, -, hj, rfl⟩ := q
  dsimp only
  refine ⟨⟨⟨R, h, hh, ?_, P.2.1, P.2.2.1, ?_⟩, fun k hk => ?_, ?_, ⟨j, by omega, up_eq⟩, fun k hk => ?_, i6.k ?_⟩, ?_, ?_⟩
  · rw [up_k (by decide)]; exact P.1
  · rw [up_p (by decide)]; exact P.2.2.2
  · rw [up_p (by decide)]; exact i2 k hk
  · obtain ⟨m, hm, e, S⟩ := i3
    refine ⟨m, hm, ?_, fun i hi => ?_⟩
    · rw [up_k (by decide)]; exact e
    · rw [up_p (by decide)]; exact S i hi
  · rw [up_p (by decide)]; exact i5 k hk
  · rw [up14 (by decide)]
  · funext k; rw [up_p (by decide)]
  · funext k; rw [up_p (by decide)]
theorem V_M_textI (I : IM t) : wp (M_text t) (fun v => IM v.2 ∧ v.2 10 8 = nI 0 ∧ v.2 20 = t 20 ∧ v.2 21 = t 21) := by
  obtain ⟨⟨R, h, hh, P⟩, i2, i3, ⟨L, hL, eL⟩, i5, i6⟩ := I
  refine wc (V_M_text eL hL i6) (fun v hv => ?_)
  obtain ⟨e8, o | ⟨o, R', P', e22⟩⟩ := hv
  · refine ⟨⟨⟨R, h, hh, ?_, P.2.1, P.2.2.1, ?_⟩, fun k hk => ?_, ?_, ⟨0, by decide, e8⟩, fun k hk => ?_, i6.k ?_⟩, e8, ?_, ?_⟩
    · rw [o 10 1 (by omega) (by decide)]; exact P.1
    · rw [o 11 _ (by omega) (by decide)]; exact P.2.2.2
    · rw [o 11 _ (by omega) (by decide)]; exact i2 k hk
    · obtain ⟨m, hm, e, S⟩ := i3
      refine ⟨m, hm, ?_, fun i hi => ?_⟩
      · rw [o 10 22 (by omega) (by decide)]; exact e
      · rw [o 17 _ (by omega) (by decide)]; exact S i hi
    · rw [o 21 k (by omega) (by decide)]; exact i5 k hk
    · funext k; exact o 14 k (by omega) (by decide)
    · funext k; exact o 20 k (by omega) (by decide)
    · funext k; exact o 21 k (by omega) (by decide)
  · refine ⟨⟨⟨R', 0, by decide, P'⟩, fun k hk => ?_, ⟨0, by decide, e22, fun i hi => absurd hi (by omega)⟩, ⟨0, by decide, e8⟩, fun k hk => ?_, i6.k ?_⟩, e8, ?_, ?_⟩
    · rw [o 11 _ (by decide) (by omega) (by decide) (by decide)]; exact i2 k hk
    · rw [o 21 k (by decide) (by omega) (by decide) (by decide)]; exact i5 k hk
    · funext k; exact o 14 k (by decide) (by omega) (by decide) (by decide)
    · funext k; exact o 20 k (by decide) (by omega) (by decide) (by decide)
    · funext k; exact o 21 k (by decide) (by omega) (by decide) (by decide)
theorem V_M_rule (I : IM t) : wp (M_rule x1 t) (fun _ => True) := by
  obtain ⟨⟨R, h, hh, P⟩, -⟩ := I
  unfold M_rule
  exact wi (fun _ => ws trivial) (fun _ => wi (fun _ => wm rfl (by decide) (by decide) (ws trivial)) (fun _ => wi (fun _ => wm rfl (by decide) (by decide) (ws trivial)) (fun _ => wi (fun _ => wm rfl (by decide) (by decide) (ws trivial)) (fun _ => wi (fun _ => wb (V_warmthOn P (by decide)) (fun _ _ => ws trivial)) (fun _ => wi (fun _ => wb (V_onOn P (by decide)) (fun _ _ => ws trivial)) (fun _ => wi (fun _ => wb (V_outOn P (by omega)) (fun _ _ => ws trivial)) (fun _ => ws trivial)))))))
theorem V_M_room (I : IM t) : wp (M_room x1 x2 t) (fun _ => True) := by
  obtain ⟨⟨R, h, hh, P⟩, -⟩ := I
  have h6 := P.2.1
  unfold M_room
  refine wbB (V_isRoom P) (ws trivial) (fun q => wbB (V_inN (a := 0) (c := 7) rfl rfl (by decide) (by decide)) (ws trivial) (fun q2 => ?_))
  obtain ⟨j, hj, rfl⟩ := q
  obtain ⟨k, -, hk, rfl⟩ := q2
  have hj6 : j < 6 := by omega
  refine wi (fun _ => wm (by rw [pk_mul, nI_add]) (show 6 * k + j < 312 by omega) (by decide) (ws trivial)) (fun _ => wi (fun _ => wm (nI_add 30 j) (by omega) (by decide) (ws trivial)) (fun _ => wbB (V_hasTongue hj6) (ws trivial) (fun _ => ?_)))
  exact wi (fun _ => wm (nI_add 18 j) (by omega) (by decide) (ws trivial)) (fun _ => wi (fun _ => wm (nI_add 24 j) (by omega) (by decide) (ws trivial)) (fun _ => wi (fun _ => wb (V_lowOn P hj6) (fun _ _ => ws trivial)) (fun _ => wb (V_highOn P hj6) (fun _ _ => ws trivial))))
theorem V_M_wall (I : IM t) : wp (M_wall x1 t) (fun _ => True) := by
  obtain ⟨⟨R, h, hh, P⟩, -⟩ := I
  have h6 := P.2.1
  unfold M_wall
  refine wbB (V_isWall P) (ws trivial) (fun q => ?_)
  obtain ⟨j, hj, rfl⟩ := q
  exact wm (nI_add 36 j) (by omega) (by decide) (ws trivial)
theorem V_M_outside : wp (M_outside x1 t) (fun _ => True) := by
  unfold M_outside
  refine wbB (V_inN (a := 0) (c := 7) rfl rfl (by decide) (by decide)) (ws trivial) (fun q => ?_)
  obtain ⟨j, -, hj, rfl⟩ := q
  exact wm (nI_add 41 j) (by omega) (by decide) (ws trivial)
theorem V_puts0 : wp (M_puts (nI 0) x2 x3 x4 t) (fun v => v.2 = t) := by
  unfold M_puts
  rw [if_pos (show nI 0 = 0 from rfl)]
  exact ws rfl
theorem V_puts1 {j : Nat} (hj : j < 312) : wp (M_puts (nI 1) (nI j) x3 x4 t) (fun v => v.2 = up t 11 j (x3 - x4)) := by
  unfold M_puts
  rw [if_neg (by decide)]
  exact wm rfl hj (by decide) (wm rfl hj (by decide) (wsb (ws rfl)))
theorem IM.u {j : Nat} {v : Int32} (I : IM t) (hj : j < 49) : IM (up t 11 j v) ∧ SB t (up t 11 j v) := by
  obtain ⟨R, h, hh, P⟩ := I.1
  exact I.z (offZ.u (by omega)) ⟨R, h, hh, P.at (by omega)⟩
theorem V_M_alter (I : IM t) : wp (M_alter x1 x2 x3 t) (fun v => IM v.2 ∧ SB t v.2) := by
  have I0 := I
  obtain ⟨⟨R, h, hh, P⟩, -⟩ := I
  have h6 := P.2.1
  have z : wp (M_alter_47 x1 x2 x3 t) (fun v => IM v.2 ∧ SB t v.2) := by
    unfold M_alter_47 M_alter_48
    exact wb V_puts0 (fun v e => ws (by dsimp only; rw [e]; exact ⟨I0, SB.rf⟩))
  unfold M_alter
  refine wbB (V_isRoom P) z (fun q => wbB (V_inN (a := 0) (c := 2) rfl rfl (by decide) (by decide)) z (fun q2 => ?_))
  obtain ⟨j, hj, rfl⟩ := q
  obtain ⟨k, -, hk, rfl⟩ := q2
  have w : wp (M_alter_48 (nI j) (nI k) x3 (nI 1) t) (fun v => IM v.2 ∧ SB t v.2) := by
    unfold M_alter_48
    rw [pk_mul, nI_add]
    exact wb (V_puts1 (by omega)) (fun v e => ws (by dsimp only; rw [e]; exact I0.u (by omega)))
  refine wi (fun _ => ?_) (fun _ => ?_)
  · unfold M_alter_37
    exact wbB (V_inN (a := 0) (c := 99) rfl rfl (by decide) (by decide)) z (fun _ => w)
  · unfold M_alter_37
    exact wbB (V_inN (a := 0) (c := 9) rfl rfl (by decide) (by decide)) z (fun _ => w)
theorem V_M_fit (I : IM t) : wp (M_fit x1 x2 x3 t) (fun v => IM v.2 ∧ SB t v.2) := by
  have I0 := I
  obtain ⟨⟨R, h, hh, P⟩, -⟩ := I
  have h6 := P.2.1
  unfold M_fit
  refine wbB (V_isRoom P) (ws ⟨I0, SB.rf⟩) (fun q => wbB (V_inN (a := 0) (c := 3) rfl rfl (by decide) (by decide)) (ws ⟨I0, SB.rf⟩) (fun _ => wbB (V_inN (a := 0) (c := 99) rfl rfl (by decide) (by decide)) (ws ⟨I0, SB.rf⟩) (fun _ => ?_)))
  obtain ⟨j, hj, rfl⟩ := q
  have w : ∀ y : Int32, wp (M_fit_58 (nI j) x2 x3 y t) (fun v => IM v.2 ∧ SB t v.2) := fun y => by
    unfold M_fit_58
    refine wm (nI_add 18 j) (by omega) (by decide) (wsb (wm (nI_add 24 j) (by omega) (by decide) (wsb (ws ?_))))
    exact I0.z ((offZ.u (by omega)).tr (offZ.u (by omega))) ⟨R, h, hh, (P.at (by omega)).at (by omega)⟩
  exact wbB (V_hasTongue (by omega)) (w _) (fun _ => wm (nI_add 18 j) (by omega) (by decide) (w _))
theorem V_M_strip (I : IM t) : wp (M_strip x1 t) (fun v => IM v.2 ∧ SB t v.2) := by
  have I0 := I
  obtain ⟨⟨R, h, hh, P⟩, -⟩ := I
  have h6 := P.2.1
  unfold M_strip
  refine wbB (V_isRoom P) (ws ⟨I0, SB.rf⟩) (fun q => ?_)
  obtain ⟨j, hj, rfl⟩ := q
  refine wbB (V_hasTongue (by omega)) (ws ⟨I0, SB.rf⟩) (fun _ => wm (nI_add 18 j) (by omega) (by decide) (wb (V_strips (by decide) (by omega)) (fun t1 h1 => ws ?_)))
  obtain ⟨v1, v2, v3, rfl⟩ := h1
  exact I0.z (((offZ.u (by omega)).tr (offZ.u (by omega))).tr (offZ.u (by omega))) ⟨R, h, hh, ((P.at (by omega)).at (by omega)).at (by omega)⟩
/-- a mark is set, or nothing is -/
theorem V_marks (P : PG t 0 R h) : wp (M_marks x1 x2 t) (fun v => v.2 = t ∨ ∃ j w, j < 49 ∧ v.2 = up t 11 j w) := by
  have h6 := P.2.1
  unfold M_marks
  refine wbB (V_isRoom P) (ws (Or.inl rfl)) (fun q => wbB (V_inN (a := 0) (c := 99) rfl rfl (by decide) (by decide)) (ws (Or.inl rfl)) (fun _ => ?_))
  obtain ⟨j, hj, rfl⟩ := q
  refine wbB (V_hasTongue (by omega)) (ws (Or.inl rfl)) (fun _ => ?_)
  rw [nI_add]
  exact wb (V_puts1 (by omega)) (fun v e => ws (Or.inr ⟨24 + j, _, by omega, e⟩))
theorem V_M_mark (I : IM t) : wp (M_mark x1 x2 t) (fun v => IM v.2 ∧ SB t v.2) := by
  have I0 := I
  obtain ⟨⟨R, h, hh, P⟩, -⟩ := I
  unfold M_mark
  refine wb (V_marks P) (fun v hv => ws ?_)
  dsimp only
  rcases hv with e | ⟨j, w, hj, e⟩
  · rw [e]; exact ⟨I0, SB.rf⟩
  · rw [e]; exact I0.u hj
theorem V_M_lag (I : IM t) : wp (M_lag x1 x2 t) (fun v => IM v.2 ∧ SB t v.2) := by
  have I0 := I
  obtain ⟨⟨R, h, hh, P⟩, -⟩ := I
  have h6 := P.2.1
  have z : wp (M_lag_25 x1 x2 t) (fun v => IM v.2 ∧ SB t v.2) := by
    unfold M_lag_25 M_lag_26
    exact wb V_puts0 (fun v e => ws (by dsimp only; rw [e]; exact ⟨I0, SB.rf⟩))
  unfold M_lag
  refine wbB (V_isWall P) z (fun q => wbB (V_inN (a := 0) (c := 9) rfl rfl (by decide) (by decide)) z (fun _ => ?_))
  obtain ⟨j, hj, rfl⟩ := q
  unfold M_lag_26
  rw [nI_add]
  exact wb (V_puts1 (by omega)) (fun v e => ws (by dsimp only; rw [e]; exact I0.u (by omega)))
theorem V_M_sky (I : IM t) : wp (M_sky x1 x2 t) (fun v => IM v.2 ∧ SB t v.2) := by
  have z : wp (M_sky_29 x1 x2 t) (fun v => IM v.2 ∧ SB t v.2) := by
    unfold M_sky_29 M_sky_30
    exact wb V_puts0 (fun v e => ws (by dsimp only; rw [e]; exact ⟨I, SB.rf⟩))
  unfold M_sky
  refine wbB (V_inN (a := 0) (c := 7) rfl rfl (by decide) (by decide)) z (fun q => wbB (V_inN (a := 0) (c := 99) rfl rfl (by decide) (by decide)) z (fun _ => ?_))
  obtain ⟨j, -, hj, rfl⟩ := q
  unfold M_sky_30
  rw [nI_add]
  exact wb (V_puts1 (by omega)) (fun v e => ws (by dsimp only; rw [e]; exact I.u (by omega)))
theorem V_h42 {N : Nat} {t0 : sg} (I0 : IM t0) (hN : N ≤ 48) : ∀ (n r fu h : Nat) (t : sg), offZ t0 t → PG t 0 R h → h + n ≤ 999 → r + n = N → n < fu → wp (M_hours_42 (nI N) x2 fu (nI r) t) (fun v => IM v.2 ∧ SB t0 v.2)
  | n, r, 0, h, t, o, P, hh, hr, hf => absurd hf (by omega)
  | n, r, fu + 1, h, t, o, P, hh, hr, hf => by
    rw [M_hours_42]
    refine wi (fun c => ?_) (fun _ => wm rfl (by decide) (by decide) (ws (I0.z o ⟨R, h, by omega, P⟩)))
    rw [nI_ltI (by omega) (by omega)] at c
    obtain ⟨n, rfl⟩ : ∃ m, n = m + 1 := ⟨n - 1, by omega⟩
    rw [nI_add]
    exact wb (V_goesOn P (by omega)) (fun t1 g1 => V_h42 I0 hN n (r + 1) fu (h + 1) t1 (o.tr g1.2.z) g1.1 (by omega) (by omega) (by omega))
theorem V_M_hours (I : IM t) : wp (M_hours x1 t) (fun v => IM v.2 ∧ SB t v.2) := by
  have I0 := I
  obtain ⟨⟨R, h, hh, P⟩, -⟩ := I
  unfold M_hours
  refine wbB (V_inN (a := 0) (c := 48) rfl rfl (by decide) (by decide)) (ws ⟨I0, SB.rf⟩) (fun q => ?_)
  obtain ⟨N, -, hN, rfl⟩ := q
  refine wm rfl (by decide) (by decide) (wi (fun _ => ws ⟨I0, SB.rf⟩) (fun c => wm rfl (by decide) (by decide) ?_))
  have e : t 11 49 = nI h := P.2.2.2
  rw [e, nI_add, nI_ltI (by decide) (by omega)] at c
  exact V_h42 I0 hN N 0 FU h t offZ.rf P (by omega) (by omega) (by show N < 100000; omega)
theorem V_M_see (I : IM t) : wp (M_see x1 x2 x3 t) (fun v => IM v.2 ∧ SB t v.2) := by
  have I0 := I
  obtain ⟨⟨R, h, hh, P⟩, i2, ⟨m, hm, em, S⟩, ⟨L, hL, eL⟩, i5, i6⟩ := I
  have h6 := P.2.1
  unfold M_see
  refine wbB (V_inN (a := 0) (c := 20) rfl rfl (by decide) (by decide)) (ws ⟨I0, SB.rf⟩) (fun _ => wbB (V_isRoom P) (ws ⟨I0, SB.rf⟩) (fun q => wbB (V_inN (a := 0) (c := 99) rfl rfl (by decide) (by decide)) (ws ⟨I0, SB.rf⟩) (fun _ => ?_)))
  obtain ⟨j, hj, rfl⟩ := q
  rw [em]
  refine wi (fun _ => ws ⟨I0, SB.rf⟩) (fun c => ?_)
  have hm6 : m ≠ 6 := fun e => c (by rw [e])
  refine wm (pk_mul 3 m) (by omega) (by decide) (wsb ?_)
  rw [up_p (by decide), em]
  refine wm (by rw [pk_mul, nI_add]) (show 3 * m + 1 < 18 by omega) (by decide) (wsb ?_)
  rw [up_p (by decide), up_p (by decide), em]
  refine wm (by rw [pk_mul, nI_add]) (show 3 * m + 2 < 18 by omega) (by decide) (wsb (wsb (ws ?_)))
  have e3 : up (up (up t 17 (3 * m) x1) 17 (3 * m + 1) (nI j)) 17 (3 * m + 2) x3 10 22 = nI m := by rw [up_p (by decide), up_p (by decide), up_p (by decide), em]
  rw [e3, nI_add]
  dsimp only
  have off : ∀ p k, p ≠ 17 → ¬ (p = 10 ∧ k = 22) → up (up (up (up t 17 (3 * m) x1) 17 (3 * m + 1) (nI j)) 17 (3 * m + 2) x3) 10 22 (nI (m + 1)) p k = t p k := fun p k a b => by
    rw [up, if_neg b, up_p a, up_p a, up_p a]
  refine ⟨⟨⟨R, h, hh, (off 10 1 (by decide) (by decide)).trans P.1, h6, P.2.2.1, (off 11 _ (by decide) (by decide)).trans P.2.2.2⟩, fun k hk => ?_, ⟨m + 1, by omega, up_eq, fun e he => ?_⟩, ⟨L, hL, (off 10 8 (by decide) (by decide)).trans eL⟩, fun k hk => ?_, i6.k ?_⟩, off 10 8 (by decide) (by decide), ?_, ?_⟩
  · rw [off 11 _ (by decide) (by omega)]; exact i2 k hk
  · rw [up_p (by decide)]
    by_cases q : e = m
    · subst q
      rw [up_k (by omega), up_eq]
      exact ⟨j, by omega, rfl⟩
    · rw [up_k (by omega), up_k (by omega), up_k (by omega)]
      exact S e (by omega)
  · rw [off 21 k (by decide) (by omega)]; exact i5 k hk
  · funext k; exact off 14 k (by decide) (by omega)
  · funext k; exact off 20 k (by decide) (by omega)
  · funext k; exact off 21 k (by decide) (by omega)
theorem V_M_forget (I : IM t) : wp (M_forget x1 t) (fun v => IM v.2 ∧ SB t v.2) := by
  have I0 := I
  obtain ⟨⟨R, h, hh, P⟩, i2, ⟨m, hm, em, S⟩, ⟨L, hL, eL⟩, i5, i6⟩ := I
  unfold M_forget
  rw [em]
  refine wbB (V_inN (a := 0) (c := m) rfl rfl (by decide) (by omega)) (ws ⟨I0, SB.rf⟩) (fun q => wsb (ws ?_))
  obtain ⟨j, -, hj, rfl⟩ := q
  dsimp only
  have off : ∀ p k, ¬ (p = 10 ∧ k = 22) → up t 10 22 (nI j) p k = t p k := fun p k b => if_neg b
  refine ⟨⟨⟨R, h, hh, (off 10 1 (by decide)).trans P.1, P.2.1, P.2.2.1, (off 11 _ (by omega)).trans P.2.2.2⟩, fun k hk => ?_, ⟨j, by omega, up_eq, fun e he => ?_⟩, ⟨L, hL, (off 10 8 (by decide)).trans eL⟩, fun k hk => ?_, i6.k ?_⟩, off 10 8 (by decide), ?_, ?_⟩
  · rw [off 11 _ (by omega)]; exact i2 k hk
  · rw [off 17 _ (by omega)]; exact S e (by omega)
  · rw [off 21 k (by omega)]; exact i5 k hk
  · funext k; exact off 14 k (by omega)
  · funext k; exact off 20 k (by omega)
  · funext k; exact off 21 k (by omega)
theorem V_M_keep (I : IM t) : wp (M_keep x1 t) (fun v => IM v.2 ∧ SB t v.2) := by
  have I0 := I
  obtain ⟨⟨R, h, hh, P⟩, i2, ⟨m, hm, em, S⟩, ⟨L, hL, eL⟩, i5, i6⟩ := I
  unfold M_keep
  refine wbB (V_inN (a := 0) (c := 1) rfl rfl (by decide) (by decide)) (ws ⟨I0, SB.rf⟩) (fun q => ?_)
  obtain ⟨j, -, hj, rfl⟩ := q
  rw [nI_add, pk_mul, copies_eq (by decide) (by omega) (by omega)]
  refine wsb ?_
  have e0 : (nI j) = nI j := rfl
  have w : ∀ y : Int32, wp (M_keep_37 (nI j) y (cpM t 0 (52 * (j + 1)) 52)) (fun v => IM v.2 ∧ SB t v.2) := fun y => by
    unfold M_keep_37
    refine wm rfl (by omega) (by decide) (wsb (ws ?_))
    dsimp only
    have off : ∀ p k, p ≠ 19 → ¬ (p = 11 ∧ 52 * (j + 1) ≤ k ∧ k < 52 * (j + 1) + 52) → up (cpM t 0 (52 * (j + 1)) 52) 19 j (vp_nar .boolean (nI 1)) p k = t p k := fun p k a b => by
      rw [up_p a, cpM, if_neg b]
    refine ⟨⟨⟨R, h, hh, (off 10 1 (by decide) (by omega)).trans P.1, P.2.1, P.2.2.1, (off 11 _ (by decide) (by omega)).trans P.2.2.2⟩, fun k hk => ?_, ⟨m, hm, (off 10 22 (by decide) (by omega)).trans em, fun e he => ?_⟩, ⟨L, hL, (off 10 8 (by decide) (by omega)).trans eL⟩, fun k hk => ?_, i6.k ?_⟩, off 10 8 (by decide) (by omega), ?_, ?_⟩
    · by_cases c : k = j
      · subst c
        refine ⟨h, hh, ?_⟩
        rw [up_p (by decide), cpM, if_pos ⟨rfl, by omega, by omega⟩, show 0 + (52 * (k + 1) + 49 - 52 * (k + 1)) = 0 + 49 by omega]
        exact P.2.2.2
      · rw [off 11 _ (by decide) (by omega)]; exact i2 k hk
    · rw [off 17 _ (by decide) (by omega)]; exact S e he
    · rw [off 21 k (by decide) (by omega)]; exact i5 k hk
    · funext k; exact off 14 k (by decide) (by omega)
    · funext k; exact off 20 k (by decide) (by omega)
    · funext k; exact off 21 k (by decide) (by omega)
  exact wm rfl (by omega) (by decide) (wi (fun _ => w _) (fun _ => w _))
theorem V_M_back (I : IM t) : wp (M_back x1 t) (fun v => IM v.2 ∧ SB t v.2) := by
  have I0 := I
  obtain ⟨⟨R, h, hh, P⟩, i2, -⟩ := I
  unfold M_back
  refine wbB (V_inN (a := 0) (c := 1) rfl rfl (by decide) (by decide)) (ws ⟨I0, SB.rf⟩) (fun q => ?_)
  obtain ⟨j, -, hj, rfl⟩ := q
  refine wm rfl (by omega) (by decide) (wi (fun _ => ws ⟨I0, SB.rf⟩) (fun _ => ?_))
  rw [nI_add, pk_mul, copies_eq (by omega) (by decide) (by omega)]
  refine wsb (wm rfl (by decide) (by decide) (ws ?_))
  obtain ⟨h', hh', e'⟩ := i2 j (by omega)
  have P' : PG t (52 * (j + 1)) R h' := ⟨P.1, P.2.1, by omega, e'⟩
  exact I0.z (fun p k a _ _ _ => if_neg (fun w => a ⟨w.1, Or.inl (by omega)⟩)) ⟨R, h', hh', cpM_pg P' (by decide)⟩
theorem V_sh56 {j : Nat} (hj : j < 4) : ∀ (n r fu : Nat) (t : sg), r + n = 40 → n < fu → wp (M_sheet_56 (nI j) fu (nI r) t) (fun v => v.1 = nI 1 ∧ ∀ p, p ≠ 22 → v.2 p = t p)
  | n, r, 0, t, hr, hf => absurd hf (by omega)
  | n, r, fu + 1, t, hr, hf => by
    rw [M_sheet_56]
    refine wi (fun c => ?_) (fun _ => ws ⟨rfl, fun _ _ => rfl⟩)
    rw [nI_ltI (by omega) (by decide)] at c
    obtain ⟨n, rfl⟩ : ∃ m, n = m + 1 := ⟨n - 1, by omega⟩
    refine wm (by rw [pk_mul, nI_add]) (show 40 * j + r < 160 by omega) (by decide) (wsb ?_)
    rw [nI_add]
    exact wc (V_sh56 hj n (r + 1) fu _ (by omega) (by omega)) (fun a ha => ⟨ha.1, fun p hp => (ha.2 p hp).trans (up_off hp)⟩)
theorem V_M_sheet (I : IM t) : wp (M_sheet x1 x2 x3 t) (fun v => IM v.2 ∧ v.2 10 8 = t 10 8) := by
  have I0 := I
  obtain ⟨⟨R, h, hh, P⟩, i2, i3, i4, i5, i6⟩ := I
  unfold M_sheet
  refine wbB (V_inN (a := 0) (c := 3) rfl rfl (by decide) (by decide)) (ws ⟨I0, rfl⟩) (fun q => wbB (V_inN (a := 0) (c := 2) rfl rfl (by decide) (by decide)) (ws ⟨I0, rfl⟩) (fun q2 => wi (fun _ => ws ⟨I0, rfl⟩) (fun c => wi (fun _ => ws ⟨I0, rfl⟩) (fun c2 => ?_))))
  obtain ⟨j, -, hj, rfl⟩ := q
  obtain ⟨n, hn, rfl⟩ := nI_of c2
  rw [nI_ltI (by decide) hn] at c
  refine wm rfl (by omega) (by decide) (wsb (wm rfl (by omega) (by decide) (wsb ?_)))
  refine wc (V_sh56 (by omega) 40 0 FU _ (by omega) (by decide)) (fun v hv => ?_)
  have off : ∀ p, p ≠ 20 → p ≠ 21 → p ≠ 22 → v.2 p = t p := fun p a b c => by
    rw [hv.2 p c, up_off b, up_off a]
  refine ⟨⟨⟨R, h, hh, by rw [off 10 (by decide) (by decide) (by decide)]; exact P.1, P.2.1, P.2.2.1, by rw [off 11 (by decide) (by decide) (by decide)]; exact P.2.2.2⟩, fun k hk => ?_, ?_, by rw [off 10 (by decide) (by decide) (by decide)]; exact i4, fun k hk => ?_, i6.k (off 14 (by decide) (by decide) (by decide))⟩, by rw [off 10 (by decide) (by decide) (by decide)]⟩
  · rw [off 11 (by decide) (by decide) (by decide)]; exact i2 k hk
  · unfold SN
    rw [off 10 (by decide) (by decide) (by decide), off 17 (by decide) (by decide) (by decide)]; exact i3
  · rw [hv.2 21 (by decide)]
    by_cases e : k = j
    · subst e; exact ⟨n, by omega, up_eq⟩
    · rw [up_k e, up_p (by decide)]; exact i5 k hk
theorem V_M_lay (I : IM t) : wp (M_lay x1 x2 x3 t) (fun v => IM v.2 ∧ SB t v.2) := by
  have I0 := I
  obtain ⟨⟨R, h, hh, P⟩, i2, i3, i4, i5, i6⟩ := I
  unfold M_lay
  refine wbB (V_inN (a := 0) (c := 3) rfl rfl (by decide) (by decide)) (ws ⟨I0, SB.rf⟩) (fun q => ?_)
  obtain ⟨j, -, hj, rfl⟩ := q
  obtain ⟨n, hn, en⟩ := i5 j (by omega)
  refine wm rfl (by omega) (by decide) (wi (fun _ => ws ⟨I0, SB.rf⟩) (fun _ => wm rfl (by omega) (by decide) ?_))
  rw [en]
  refine wbB (V_in (lo := nI 0) (hi := nI n - nI 1) rfl rfl) (ws ⟨I0, SB.rf⟩) (fun q2 => ?_)
  obtain ⟨i, hi, rfl⟩ := nI_of (x := x2) q2.1
  have hi2 : i < 40 := by
    have q3 := q2.2
    rw [Int32.lt_iff_toInt_lt, pk_sub_toInt (by omega) (by decide), nI_toInt hi] at q3
    omega
  have w : ∀ y : Int32, wp (M_lay_99 y (nI 40 * nI j + nI i) t) (fun v => IM v.2 ∧ SB t v.2) := fun y => by
    unfold M_lay_99
    refine wm (by rw [pk_mul, nI_add]) (show 40 * j + i < 160 by omega) (by decide) (wsb (ws ?_))
    dsimp only
    have off : ∀ p, p ≠ 22 → up t 22 (40 * j + i) y p = t p := fun p a => up_off a
    refine ⟨⟨⟨R, h, hh, by rw [off 10 (by decide)]; exact P.1, P.2.1, P.2.2.1, by rw [off 11 (by decide)]; exact P.2.2.2⟩, fun k hk => ?_, ?_, by rw [off 10 (by decide)]; exact i4, fun k hk => ?_, i6.k (off 14 (by decide))⟩, by rw [off 10 (by decide)], off 20 (by decide), off 21 (by decide)⟩
    · rw [off 11 (by decide)]; exact i2 k hk
    · unfold SN
      rw [off 10 (by decide), off 17 (by decide)]; exact i3
    · rw [off 21 (by decide)]; exact i5 k hk
  exact wm rfl (by omega) (by decide) (wi (fun _ => w _) (fun _ => wm rfl (by omega) (by decide) (wi (fun _ => w _) (fun _ => w _))))
theorem rd_in {q n : Nat} (hq : q < 1000) (hn : n ≤ 40) (h1 : ¬ x.toInt64 + (nI q).toInt64 < (0 : Int64)) (h2 : ¬ (nI n - nI 1).toInt64 < x.toInt64 + (nI q).toInt64) : ∃ i : Nat, i < n ∧ x + nI q = nI i := by
  have a1 := Int32.minValue_le_toInt x
  have a2 := Int32.toInt_le x
  have e1 : Int32.minValue.toInt = -2147483648 := by decide
  have e2 : Int32.maxValue.toInt = 2147483647 := by decide
  rw [e1] at a1
  rw [e2] at a2
  have es : (x.toInt64 + (nI q).toInt64).toInt = x.toInt + q := by
    rw [Int64.toInt_add, Int32.toInt_toInt64, Int32.toInt_toInt64, nI_toInt (by omega)]
    exact Int.bmod_eq_of_le (by omega) (by omega)
  rw [Int64.lt_iff_toInt_lt, es] at h1
  rw [Int64.lt_iff_toInt_lt, es, Int32.toInt_toInt64, pk_sub_toInt (by omega) (by decide)] at h2
  have e0 : (0 : Int64).toInt = 0 := by decide
  rw [e0] at h1
  refine ⟨(x.toInt + q).toNat, by omega, Int32.toInt_inj.mp ?_⟩
  rw [Int32.toInt_add, nI_toInt (by omega), nI_toInt (by omega), Int.bmod_eq_of_le (by omega) (by omega)]
  omega
theorem V_rd56 {a N h0 : Nat} {t0 : sg} (I0 : IM t0) (ha : a < 4) (hN : N ≤ 20) (hh0 : h0 ≤ 999) : ∀ (n q fu h : Nat) (x5 x6 : Int32) (t : sg), offZ t0 t → PG t 0 R h → h ≤ 999 → PG t 156 R h0 → (x5 = 0 → q = 0 ∨ ∃ i : Nat, i < 40 ∧ x3 + nI (q - 1) = nI i) → q + n = 2 * N → n < fu → wp (M_read_56 (nI a) x2 x3 (nI N) fu x5 x6 (nI q) t) (fun v => IM v.2 ∧ SB t0 v.2)
  | n, q, 0, h, x5, x6, t, o, P, hh, P2, hq, hr, hf => absurd hf (by omega)
  | n, q, fu + 1, h, x5, x6, t, o, P, hh, P2, hq, hr, hf => by
    have fin : ∀ y5 y6 : Int32, wp (M_read_228 y5 y6 t) (fun v => IM v.2 ∧ SB t0 v.2) := fun y5 y6 => by
      unfold M_read_228
      refine wsb (ws ?_)
      dsimp only
      exact I0.z (fun p k b1 b2 b3 b4 => by rw [up, if_neg (fun w => b4 ⟨w.1, by omega⟩)]; exact o p k b1 b2 b3 b4) ⟨R, h, hh, (up_k (by decide)).trans P.1, P.2.1, P.2.2.1, (up_p (by decide)).trans P.2.2.2⟩
    rw [M_read_56, pk_mul]
    refine wi (fun c => wi (fun c5 => ?_) (fun _ => fin _ _)) (fun _ => fin _ _)
    rw [nI_ltI (by omega) (by omega)] at c
    obtain ⟨n, rfl⟩ : ∃ m, n = m + 1 := ⟨n - 1, by omega⟩
    have hq0 := hq c5
    have bad : ∀ y : Int32, ¬ y = 0 → wp (M_read_126 (M_read_56 (nI a) x2 x3 (nI N) fu) (nI a) x2 x3 (nI N) x6 (nI q) y t) (fun v => IM v.2 ∧ SB t0 v.2) := fun y hy => by
      unfold M_read_126
      refine wi (fun e => absurd e hy) (fun _ => ?_)
      rw [nI_add]
      exact V_rd56 I0 ha hN hh0 n (q + 1) fu h _ _ t o P hh P2 (fun e => absurd e hy) (by omega) (by omega)
    refine wm rfl (by omega) (by decide) (wi (fun _ => bad _ (by decide)) (fun _ => wm rfl (by omega) (by decide) (wi (fun _ => wm rfl (by omega) (by decide) ?_) (fun _ => bad _ (by decide)))))
    have It := I0.z o ⟨R, h, hh, P⟩
    obtain ⟨m, hm, em⟩ := It.1.2.2.2.2.1 a ha
    rw [em]
    unfold M_in
    by_cases g1 : x3.toInt64 + (nI q).toInt64 < (0 : Int64)
    · rw [if_pos g1]; exact bad (nI 2) (by decide)
    · rw [if_neg g1]
      by_cases g2 : (nI m - nI 1).toInt64 < x3.toInt64 + (nI q).toInt64
      · rw [if_pos g2]; exact bad (nI 2) (by decide)
      · rw [if_neg g2]
        obtain ⟨i, hi, ei⟩ := rd_in (by omega) hm g1 g2
        show wp (M_read_126 (M_read_56 (nI a) x2 x3 (nI N) fu) (nI a) x2 x3 (nI N) x6 (nI q) (nI 0) t) (fun v => IM v.2 ∧ SB t0 v.2)
        unfold M_read_126
        refine wi (fun _ => wi (fun codd => ?_) (fun _ => ?_)) (fun e => absurd rfl e)
        · have hq1 : q ≠ 0 := fun e => by
            rw [e] at codd; exact absurd codd (by decide)
          obtain ⟨i', hi', ei'⟩ := hq0.resolve_left hq1
          have ix2 : nI 40 * nI a + x3 + nI q = nI (40 * a + i) := by
            rw [Int32.add_assoc, ei, pk_mul, nI_add]
          have ix1 : nI 40 * nI a + x3 + nI q - nI 1 = nI (40 * a + i') := by
            rw [Int32.sub_eq_add_neg, Int32.add_assoc, Int32.add_assoc, ← Int32.sub_eq_add_neg, pk_sub (by omega), ei', pk_mul, nI_add]
          refine wm ix1 (by omega) (by decide) (wm ix2 (by omega) (by decide) (wb (V_marks P) (fun v hv => ?_)))
          have hv3 : offZ t0 v.2 ∧ PG v.2 0 R h ∧ PG v.2 156 R h0 := by
            rcases hv with e | ⟨j, w, hj, e⟩
            · rw [e]; exact ⟨o, P, P2⟩
            · rw [e]; exact ⟨o.tr (offZ.u (by omega)), P.at (by omega), P2.at (by omega)⟩
          obtain ⟨o3, P3, P4⟩ := hv3
          have back : wp (M_read_192 (M_read_56 (nI a) x2 x3 (nI N) fu) (nI a) x2 x3 (nI N) (nI 0) x6 (nI q) v.2) (fun v => IM v.2 ∧ SB t0 v.2) := by
            unfold M_read_192 M_read_193
            rw [if_pos (show nI 0 = 0 from rfl), copies_eq (by decide) (by decide) (by decide)]
            refine wsb (ws ?_)
            exact I0.z (fun p k b1 b2 b3 b4 => by
              show cpM v.2 156 0 52 p k = t0 p k
              rw [cpM, if_neg (fun w => b1 ⟨w.1, Or.inl (by omega)⟩)]; exact o3 p k b1 b2 b3 b4) ⟨R, h0, hh0, cpM_pg P4 (by decide)⟩
          refine wi (fun _ => back) (fun _ => wm rfl (by decide) (by decide) (wi (fun c9 => ?_) (fun _ => back)))
          have e49 : v.2 11 49 = nI h := P3.2.2.2
          rw [e49, nI_ltI (by omega) (by decide)] at c9
          unfold M_read_193
          rw [if_neg (by decide), nI_add]
          exact wb (V_goesOn P3 (by omega)) (fun t1 g1 => V_rd56 I0 ha hN hh0 n (q + 1) fu (h + 1) _ _ t1 (o3.tr g1.2.z) g1.1 (by omega) ⟨g1.1.1, P4.2.1, P4.2.2.1, (g1.2 11 _ (by omega) (by decide)).trans P4.2.2.2⟩ (fun _ => Or.inr ⟨i, by omega, by rw [show q + 1 - 1 = q by omega]; exact ei⟩) (by omega) (by omega))
        · rw [nI_add]
          exact V_rd56 I0 ha hN hh0 n (q + 1) fu h _ _ t o P hh P2 (fun _ => Or.inr ⟨i, by omega, by rw [show q + 1 - 1 = q by omega]; exact ei⟩) (by omega) (by omega)
theorem V_M_read (I : IM t) : wp (M_read x1 x2 x3 x4 t) (fun v => IM v.2 ∧ SB t v.2) := by
  have I0 := I
  obtain ⟨⟨R, h, hh, P⟩, -⟩ := I
  unfold M_read
  refine wbB (V_inN (a := 0) (c := 3) rfl rfl (by decide) (by decide)) (ws ⟨I0, SB.rf⟩) (fun q => wbB (V_inN (a := 0) (c := 2) rfl rfl (by decide) (by decide)) (ws ⟨I0, SB.rf⟩) (fun _ => wbB (V_inN (a := 0) (c := 20) rfl rfl (by decide) (by decide)) (ws ⟨I0, SB.rf⟩) (fun q3 => ?_)))
  obtain ⟨a, -, ha, rfl⟩ := q
  obtain ⟨N, -, hN, rfl⟩ := q3
  refine wb (V_copies (b := 156) P (by decide) (by decide) (by decide)) (fun t1 g1 => ?_)
  exact V_rd56 I0 (by omega) hN hh (2 * N) 0 FU h _ _ t1 g1.2.z (P.m g1.2 (by decide)) hh g1.1 (fun _ => Or.inl rfl) (by omega) (by show 2 * N < 100000; omega)
theorem V_ct38 (P : PG t 0 R h) : ∀ (n r fu : Nat) (x3 : Int32), r + n = R → n < fu → wp (M_count_38 x1 x2 t fu x3 (nI r)) (fun _ => True)
  | n, r, 0, x3, hr, hf => absurd hf (by omega)
  | n, r, fu + 1, x3, hr, hf => by
    have h6 := P.2.1
    rw [M_count_38, P.1]
    refine wi (fun c => ?_) (fun _ => wi (fun _ => ws trivial) (fun _ => wi (fun _ => ?_) (fun _ => wi (fun _ => ws trivial) (fun _ => wi (fun _ => wm rfl (by decide) (by decide) (wi (fun _ => ws trivial) (fun _ => wm rfl (by decide) (by decide) (ws trivial)))) (fun _ => wi (fun _ => ws trivial) (fun _ => wi (fun _ => ws trivial) (fun _ => ws trivial)))))))
    · rw [nI_m1 (by omega) (by omega)] at c
      obtain ⟨n, rfl⟩ : ∃ m, n = m + 1 := ⟨n - 1, by omega⟩
      rw [nI_add, nI_add]
      exact wm rfl (by omega) (by decide) (V_ct38 P n (r + 1) fu _ (by omega) (by omega))
    · unfold M_count_127
      exact wm rfl (by decide) (by decide) (wi (fun _ => wm rfl (by decide) (by decide) (wi (fun _ => ws trivial) (fun _ => ws trivial))) (fun _ => wm rfl (by decide) (by decide) (wi (fun _ => ws trivial) (fun _ => ws trivial))))
theorem V_ct7 (P : PG t 0 R h) : ∀ (n r fu : Nat) (x2 : Int32), r + n = R → n < fu → wp (M_count_7 x1 x3 t fu x2 (nI r)) (fun _ => True)
  | n, r, 0, x2, hr, hf => absurd hf (by omega)
  | n, r, fu + 1, x2, hr, hf => by
    have h6 := P.2.1
    rw [M_count_7, P.1]
    refine wi (fun c => ?_) (fun _ => V_ct38 P R 0 FU _ (by omega) (by show R < 100000; omega))
    rw [nI_ltI (by omega) (by omega)] at c
    obtain ⟨n, rfl⟩ : ∃ m, n = m + 1 := ⟨n - 1, by omega⟩
    rw [nI_add, nI_add]
    exact wm rfl (by omega) (by decide) (V_ct7 P n (r + 1) fu _ (by omega) (by omega))
theorem V_M_count (I : IM t) : wp (M_count x1 t) (fun _ => True) := by
  obtain ⟨⟨R, h, hh, P⟩, -⟩ := I
  unfold M_count
  exact V_ct7 P R 0 FU _ (by omega) (by have := P.2.1; show R < 100000; omega)
end MCALLS
