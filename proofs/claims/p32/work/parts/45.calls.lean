/-! the class's calls: they end and keep what is kept -/
def IC (s : sg) : Prop := (∃ R h : Nat, h ≤ 999 ∧ HS s 11 R h) ∧ (∀ k : Nat, k < 2 → ∃ R h : Nat, h ≤ 999 ∧ HS s (37 + 8 * k) R h) ∧ FI s ∧ (∃ L : Nat, L ≤ 160 ∧ s 27 1 = nI L) ∧ (∀ k : Nat, k < 4 → ∃ n : Nat, n ≤ 40 ∧ s (133 + 2 * k) 1 = nI n)
/-- the tape's length and the heads of the sheets are as they were -/
def SA (s s' : sg) : Prop := s' 27 1 = s 27 1 ∧ ∀ k : Nat, k < 4 → s' (133 + 2 * k) = s (133 + 2 * k)
theorem SA.rf {s : sg} : SA s s := ⟨rfl, fun _ _ => rfl⟩
theorem IC.t {s s' : sg} (H : IC s) (o : offT s s') : IC s' ∧ SA s s' := by
  obtain ⟨⟨R, h, hh, h1⟩, h2, h3, h4, h5⟩ := H
  refine ⟨⟨⟨R, h, hh, h1.t o (by decide)⟩, fun k hk => ?_, h3.t o, ?_, fun k hk => ?_⟩, ?_, fun k hk => o _ (by omega)⟩
  · obtain ⟨R, h, hh, h2⟩ := h2 k hk
    exact ⟨R, h, hh, h2.t o (by omega)⟩
  · rw [o 27 (by decide)]; exact h4
  · rw [o _ (by omega)]; exact h5 k hk
  · rw [o 27 (by decide)]
theorem IC.n {s s' : sg} (H : IC s) (o : offH 11 s s') (N : ∃ R h : Nat, h ≤ 999 ∧ HS s' 11 R h) : IC s' ∧ SA s s' := by
  obtain ⟨-, h2, h3, h4, h5⟩ := H
  refine ⟨⟨N, fun k hk => ?_, ?_, ?_, fun k hk => ?_⟩, ?_, fun k hk => o _ (by omega)⟩
  · obtain ⟨R, h, hh, h2⟩ := h2 k hk
    exact ⟨R, h, hh, h2.keep (by rw [o _ (by omega)]) (by rw [o _ (by omega)]) (o _ (by omega))⟩
  · unfold FI
    rw [o 23 (by decide), o 24 (by decide), o 25 (by decide)]; exact h3
  · rw [o 27 (by decide)]; exact h4
  · rw [o _ (by omega)]; exact h5 k hk
  · rw [o 27 (by decide)]
section CALLS
variable {s : sg} {x x1 x2 x3 x4 x5 : Int32}
theorem W_C_rule (I : IC s) : wp (C_rule x1 s) (fun _ => True) := by
  obtain ⟨⟨R, h, hh, H⟩, -⟩ := I
  unfold C_rule
  exact wi (fun _ => ws trivial) (fun _ => wi (fun _ => ws trivial) (fun _ => wi (fun _ => ws trivial) (fun _ => wi (fun _ => ws trivial) (fun _ => wi (fun _ => wb W_warmthOfAll (fun _ _ => ws trivial)) (fun _ => wi (fun _ => ws trivial) (fun _ => wi (fun _ => wb (W_skyNow H (by omega)) (fun _ _ => ws trivial)) (fun _ => ws trivial)))))))
theorem W_C_room (I : IC s) : wp (C_room x1 x2 s) (fun _ => True) := by
  obtain ⟨⟨R, h, hh, H⟩, -⟩ := I
  have hR := H.2.1
  unfold C_room
  refine wbB (W_hasRoom H) (ws trivial) (fun q => wbB W_within (ws trivial) (fun _ => ?_))
  obtain ⟨j, hj, rfl⟩ := q
  have hj6 : j < 6 := by omega
  have t : wp ((H_hasTongue 11 (nI j) s).bind fun v => if v = 0 then some (-4) else (C_ofTongue (nI j) x2 s).bind fun w => some w) (fun _ => True) := by
    refine wbB (W_hasTongue hj6) (ws trivial) (fun ht => ?_)
    refine wb (P := fun _ => True) ?_ (fun _ _ => ws trivial)
    unfold C_ofTongue
    exact wi (fun _ => wm rfl hj6 (by decide) (ws trivial)) (fun _ => wi (fun _ => wm rfl hj6 (by decide) (ws trivial)) (fun _ => wi (fun _ => wb (W_lowOf H hj6 ht) (fun _ _ => ws trivial)) (fun _ => wb (W_highOf H hj6 ht) (fun _ _ => ws trivial))))
  exact wi (fun _ => wm rfl hj6 (by decide) (ws trivial)) (fun _ => wi (fun _ => wm rfl hj6 (by decide) (ws trivial)) (fun _ => wi (fun _ => wm rfl hj6 (by decide) (ws trivial)) (fun _ => wi (fun _ => t) (fun _ => wi (fun _ => t) (fun _ => wi (fun _ => t) (fun _ => wi (fun _ => t) (fun _ => wi (fun _ => wbB W_isOn (ws trivial) (fun _ => ws trivial)) (fun _ => t))))))))
theorem W_C_wall (I : IC s) : wp (C_wall x1 s) (fun _ => True) := by
  obtain ⟨⟨R, h, hh, H⟩, -⟩ := I
  have hR := H.2.1
  unfold C_wall
  refine wbB (W_hasWall H) (ws trivial) (fun q => ?_)
  obtain ⟨j, hj, rfl⟩ := q
  exact wm rfl (by omega) (by decide) (ws trivial)
theorem W_C_outside : wp (C_outside x1 s) (fun _ => True) := by
  unfold C_outside
  refine wbB W_within (ws trivial) (fun q => ?_)
  obtain ⟨j, -, hj, rfl⟩ := in_nI (by decide) q (by decide)
  exact wm rfl (by omega) (by decide) (ws trivial)
theorem W_C_alter (I : IC s) : wp (C_alter x1 x2 x3 s) (fun v => IC v.2 ∧ SA s v.2) := by
  have I0 := I
  obtain ⟨⟨R, h, hh, H⟩, -⟩ := I
  have hR := H.2.1
  unfold C_alter
  refine wbB (W_hasRoom H) (ws ⟨I0, SA.rf⟩) (fun q => wbB W_within (ws ⟨I0, SA.rf⟩) (fun _ => ?_))
  obtain ⟨j, hj, rfl⟩ := q
  have e : ∀ p, p = 12 ∨ p = 13 ∨ p = 14 → wp (C_alter_79 (nI j) x3 p s) (fun v => IC v.2 ∧ SA s v.2) := fun p hp => by
    unfold C_alter_79
    refine wb (W_exchange (by omega) (by decide)) (fun v hv => ws ?_)
    subst hv
    dsimp only
    exact I0.n (offH.up (by omega)) ⟨R, h, hh, H.keep (up_p (by omega)) (up_p (by omega)) (by funext r; exact up_p (by omega))⟩
  have t : ∀ y0 y1 : Int32, wp (C_alter_35 (nI j) x2 x3 y0 y1 x3 s) (fun v => IC v.2 ∧ SA s v.2) := fun y0 y1 => by
    unfold C_alter_35
    exact wbB W_within (ws ⟨I0, SA.rf⟩) (fun _ => wi (fun _ => e 12 (Or.inl rfl)) (fun _ => wi (fun _ => e 13 (Or.inr (Or.inl rfl))) (fun _ => e 14 (Or.inr (Or.inr rfl)))))
  exact wi (fun _ => t _ _) (fun _ => t _ _)
theorem W_C_fit (I : IC s) : wp (C_fit x1 x2 x3 s) (fun v => IC v.2 ∧ SA s v.2) := by
  have I0 := I
  obtain ⟨⟨R, h, hh, H⟩, -⟩ := I
  have hR := H.2.1
  unfold C_fit
  refine wbB (W_hasRoom H) (ws ⟨I0, SA.rf⟩) (fun q => wbB W_within (ws ⟨I0, SA.rf⟩) (fun q2 => wbB W_within (ws ⟨I0, SA.rf⟩) (fun _ => ?_)))
  obtain ⟨j, hj, rfl⟩ := q
  obtain ⟨k, -, hk, rfl⟩ := in_nI (by decide) q2 (by decide)
  have t : ∀ y : Int32, wp (C_fit_57 (nI j) (nI k) x3 y s) (fun v => IC v.2 ∧ SA s v.2) := fun y => by
    unfold C_fit_57
    refine wm rfl (by omega) (by decide) (wsb (wm rfl (by omega) (by decide) (wsb (ws ?_))))
    dsimp only
    exact I0.n ((offH.up (by omega)).tr (offH.up (by omega))) ⟨R, h, hh, (H.up4 (b := 11) (Or.inr ⟨k, by omega, rfl⟩)).up5⟩
  exact wbB (W_hasTongue (by omega)) (t _) (fun _ => wm rfl (by omega) (by decide) (t _))
theorem W_C_strip (I : IC s) : wp (C_strip x1 s) (fun v => IC v.2 ∧ SA s v.2) := by
  have I0 := I
  obtain ⟨⟨R, h, hh, H⟩, -⟩ := I
  have hR := H.2.1
  unfold C_strip
  refine wbB (W_hasRoom H) (ws ⟨I0, SA.rf⟩) (fun q => ?_)
  obtain ⟨j, hj, rfl⟩ := q
  exact wbB (W_hasTongue (by omega)) (ws ⟨I0, SA.rf⟩) (fun _ => wm rfl (by omega) (by decide) (wb (W_takeTongue (by omega) H) (fun s1 h1 => ws (I0.n h1.2 ⟨R, h, hh, h1.1⟩))))
theorem W_C_mark (I : IC s) : wp (C_mark x1 x2 s) (fun v => IC v.2 ∧ SA s v.2) := by
  have I0 := I
  obtain ⟨⟨R, h, hh, H⟩, -⟩ := I
  have hR := H.2.1
  unfold C_mark
  refine wb (W_markRefused H) (fun v hv => wi (fun c => ?_) (fun _ => ws ⟨I0, SA.rf⟩))
  obtain ⟨j, hj, rfl⟩ := hv c
  refine wb (W_exchange (by omega) (by decide)) (fun v hv => ws ?_)
  subst hv
  dsimp only
  exact I0.n (offH.up (by omega)) ⟨R, h, hh, H.up5 (b := 11)⟩
theorem W_C_lag (I : IC s) : wp (C_lag x1 x2 s) (fun v => IC v.2 ∧ SA s v.2) := by
  have I0 := I
  obtain ⟨⟨R, h, hh, H⟩, -⟩ := I
  have hR := H.2.1
  unfold C_lag
  refine wbB (W_hasWall H) (ws ⟨I0, SA.rf⟩) (fun q => wbB W_within (ws ⟨I0, SA.rf⟩) (fun _ => ?_))
  obtain ⟨j, hj, rfl⟩ := q
  refine wb (W_exchange (by omega) (by decide)) (fun v hv => ws ?_)
  subst hv
  dsimp only
  exact I0.n (offH.up (by omega)) ⟨R, h, hh, H.up6 (b := 11)⟩
theorem W_C_sky (I : IC s) : wp (C_sky x1 x2 s) (fun v => IC v.2 ∧ SA s v.2) := by
  have I0 := I
  obtain ⟨⟨R, h, hh, H⟩, -⟩ := I
  unfold C_sky
  refine wbB W_within (ws ⟨I0, SA.rf⟩) (fun q => wbB W_within (ws ⟨I0, SA.rf⟩) (fun _ => ?_))
  obtain ⟨j, -, hj, rfl⟩ := in_nI (by decide) q (by decide)
  refine wb (W_exchange (by omega) (by decide)) (fun v hv => ws ?_)
  subst hv
  dsimp only
  exact I0.n (offH.up (by omega)) ⟨R, h, hh, H.keep (up_p (by omega)) (up_p (by omega)) (by funext r; exact up_p (by omega))⟩
theorem W_C_hours (I : IC s) : wp (C_hours x1 s) (fun v => IC v.2 ∧ SA s v.2) := by
  have I0 := I
  obtain ⟨⟨R, h, hh, H⟩, -⟩ := I
  unfold C_hours
  refine wbB W_within (ws ⟨I0, SA.rf⟩) (fun q => ?_)
  obtain ⟨N, -, hN, rfl⟩ := in_nI (by decide) q (by decide)
  refine wi (fun _ => ws ⟨I0, SA.rf⟩) (fun c => ?_)
  rw [H.2.2.1, nI_add, nI_ltI (by decide) (by omega)] at c
  exact wb (W_passHours (by omega) H (by omega)) (fun v hv => ws (I0.n hv.2 ⟨R, h + N, by omega, hv.1⟩))
theorem W_C_see (I : IC s) : wp (C_see x1 x2 x3 s) (fun v => IC v.2 ∧ SA s v.2) := by
  have I0 := I
  obtain ⟨⟨R, h, hh, H⟩, i2, ⟨⟨m, hm, em⟩, hF⟩, i4, i5⟩ := I
  have hR := H.2.1
  unfold C_see
  refine wbB W_within (ws ⟨I0, SA.rf⟩) (fun q => wbB (W_hasRoom H) (ws ⟨I0, SA.rf⟩) (fun q2 => wbB W_within (ws ⟨I0, SA.rf⟩) (fun _ => ?_)))
  obtain ⟨a, -, ha, rfl⟩ := in_nI (by decide) q (by decide)
  obtain ⟨j, hj, rfl⟩ := q2
  refine wb (P := fun v => IC v.2 ∧ SA s v.2) ?_ (fun v hv => wi (fun _ => ws hv) (fun _ => ws hv))
  unfold F_put
  rw [em]
  refine wi (fun c => ?_) (fun _ => ws ⟨I0, SA.rf⟩)
  rw [nI_ltI (by omega) (by decide)] at c
  refine wm rfl (by omega) (by decide) (wsb ?_)
  rw [up_p (by decide), em]
  refine wm rfl (by omega) (by decide) (wsb ?_)
  rw [up_p (by decide), up_p (by decide), em]
  refine wm rfl (by omega) (by decide) (wsb (wsb (ws ?_)))
  have e3 : up (up (up s 24 m (nI a)) 25 m (nI j)) 26 m x3 23 3 = nI m := by rw [up_p (by decide), up_p (by decide), up_p (by decide), em]
  rw [e3, nI_add]
  dsimp only
  have off : ∀ p, ¬ (23 ≤ p ∧ p ≤ 26) → up (up (up (up s 24 m (nI a)) 25 m (nI j)) 26 m x3) 23 3 (nI (m + 1)) p = s p := fun p hp => by
    rw [up_off (by omega), up_off (by omega), up_off (by omega), up_off (by omega)]
  refine ⟨⟨⟨R, h, hh, H.keep (by rw [off _ (by decide)]) (by rw [off _ (by decide)]) (off _ (by decide))⟩, fun k hk => ?_, ⟨⟨m + 1, by omega, up_eq⟩, fun i hi => ⟨?_, ?_⟩⟩, by rw [off _ (by decide)]; exact i4, fun k hk => by rw [off _ (by omega)]; exact i5 k hk⟩, by rw [off _ (by decide)], fun k hk => off _ (by omega)⟩
  · obtain ⟨R, h, hh, H⟩ := i2 k hk
    exact ⟨R, h, hh, H.keep (by rw [off _ (by omega)]) (by rw [off _ (by omega)]) (off _ (by omega))⟩
  · rw [up_p (by decide), up_p (by decide)]
    by_cases e : i = m
    · subst e; rw [up_eq]; exact ⟨j, by omega, rfl⟩
    · rw [up_k e, up_p (by decide)]; exact (hF i hi).1
  · rw [up_p (by decide), up_p (by decide), up_p (by decide)]
    by_cases e : i = m
    · subst e; rw [up_eq]; exact ⟨a, ha, rfl⟩
    · rw [up_k e]; exact (hF i hi).2
theorem W_C_forget (I : IC s) : wp (C_forget x1 s) (fun v => IC v.2 ∧ SA s v.2) := by
  have I0 := I
  obtain ⟨⟨R, h, hh, H⟩, i2, ⟨⟨m, hm, em⟩, hF⟩, i4, i5⟩ := I
  unfold C_forget
  rw [em]
  refine wbB W_within (ws ⟨I0, SA.rf⟩) (fun q => wsb (ws ?_))
  obtain ⟨a, -, ha, rfl⟩ := in_nI (by omega) q (by decide)
  dsimp only
  refine ⟨⟨⟨R, h, hh, H.keep (up_p (by decide)) (up_p (by decide)) (up_off (by decide))⟩, fun k hk => ?_, ⟨⟨a, by omega, up_eq⟩, fun i hi => ?_⟩, by rw [up_p (by decide)]; exact i4, fun k hk => by rw [up_p (by omega)]; exact i5 k hk⟩, up_p (by decide), fun k hk => up_off (by omega)⟩
  · obtain ⟨R, h, hh, H⟩ := i2 k hk
    exact ⟨R, h, hh, H.keep (up_p (by omega)) (up_p (by omega)) (up_off (by omega))⟩
  · rw [up_p (by decide), up_p (by decide)]; exact hF i hi
theorem W_C_keep (I : IC s) : wp (C_keep x1 s) (fun v => IC v.2 ∧ SA s v.2) := by
  have I0 := I
  obtain ⟨⟨R, h, hh, H⟩, i2, i3, i4, i5⟩ := I
  unfold C_keep
  refine wbB W_within (ws ⟨I0, SA.rf⟩) (fun q => ?_)
  obtain ⟨j, -, hj, rfl⟩ := in_nI (by decide) q (by decide)
  have t : ∀ y : Int32, wp (C_keep_25 (nI j) y s) (fun v => IC v.2 ∧ SA s v.2) := fun y => by
    unfold C_keep_25
    refine wm rfl (by omega) (by decide) (wb (W_copyFrom (b := 37 + 8 * j) (c := 11) (Or.inr (by omega)) H) (fun s1 h1 => wm rfl (by omega) (by decide) (wsb (ws ?_))))
    have off : ∀ p, ¬ (p = 20 ∨ (37 + 8 * j ≤ p ∧ p ≤ 37 + 8 * j + 7)) → up s1 20 j (vp_nar .boolean (nI 1)) p = s p := fun p hp => by
      rw [up_off (by omega), h1.2 p (by omega)]
    dsimp only
    refine ⟨⟨⟨R, h, hh, H.keep (by rw [off _ (by omega)]) (by rw [off _ (by omega)]) (off _ (by omega))⟩, fun k hk => ?_, ?_, by rw [off _ (by omega)]; exact i4, fun k hk => by rw [off _ (by omega)]; exact i5 k hk⟩, by rw [off _ (by omega)], fun k hk => off _ (by omega)⟩
    · by_cases e : k = j
      · subst e
        exact ⟨R, h, hh, h1.1.keep (up_p (by omega)) (up_p (by omega)) (up_off (by omega))⟩
      · obtain ⟨R, h, hh, H⟩ := i2 k hk
        exact ⟨R, h, hh, H.keep (by rw [off _ (by omega)]) (by rw [off _ (by omega)]) (off _ (by omega))⟩
    · unfold FI
      rw [off 23 (by omega), off 24 (by omega), off 25 (by omega)]; exact i3
  exact wm rfl (by omega) (by decide) (wi (fun _ => t _) (fun _ => t _))
theorem W_C_back (I : IC s) : wp (C_back x1 s) (fun v => IC v.2 ∧ SA s v.2) := by
  have I0 := I
  obtain ⟨-, i2, -⟩ := I
  unfold C_back
  refine wbB W_within (ws ⟨I0, SA.rf⟩) (fun q => ?_)
  obtain ⟨j, -, hj, rfl⟩ := in_nI (by decide) q (by decide)
  obtain ⟨R, h, hh, H⟩ := i2 j (by omega)
  exact wm rfl (by omega) (by decide) (wi (fun _ => ws ⟨I0, SA.rf⟩) (fun _ => wm rfl (by omega) (by decide) (wb (W_copyFrom (b := 11) (c := 37 + 8 * j) (Or.inl (by omega)) H) (fun s1 h1 => ws (I0.n h1.2 ⟨R, h, hh, h1.1⟩)))))
theorem W_isThere {b : Nat} : wp (S_isThere b s) (yn True) := by
  unfold S_isThere
  exact wi (fun _ => ws (Or.inl rfl)) (fun _ => ws (Or.inr ⟨rfl, trivial⟩))
theorem W_faultAt {b : Nat} : wp (S_faultAt b x1 x2 s) (fun v => v = 0 → ¬ x2 < 0 ∧ x2 < s b 1) := by
  unfold S_faultAt
  exact wbB W_isThere (ws (fun q => absurd q (by decide))) (fun _ => wi (fun _ => wi (fun _ => ws (fun q => absurd q (by decide))) (fun c => wi (fun c2 => ws (fun _ => ⟨c, c2⟩)) (fun _ => ws (fun q => absurd q (by decide))))) (fun _ => ws (fun q => absurd q (by decide))))
theorem W_C_lay (I : IC s) : wp (C_lay x1 x2 x3 s) (fun v => IC v.2 ∧ SA s v.2) := by
  have I0 := I
  obtain ⟨⟨R, h, hh, H⟩, i2, i3, i4, i5⟩ := I
  unfold C_lay
  refine wbB W_within (ws ⟨I0, SA.rf⟩) (fun q => ?_)
  obtain ⟨j, -, hj, rfl⟩ := in_nI (by decide) q (by decide)
  refine wm rfl (by omega) (by decide) (wb W_faultAt (fun v hv => wi (fun c => ?_) (fun _ => ws ⟨I0, SA.rf⟩)))
  obtain ⟨c1, c2⟩ := hv c
  obtain ⟨n, hn, en⟩ := i5 j (by omega)
  obtain ⟨i, hi, rfl⟩ := nI_of c1
  rw [en, nI_ltI hi (by omega)] at c2
  have t : ∀ y : Int32, wp (S_put_31 (133 + 2 * j) y (nI i) s) (fun s' => IC s' ∧ SA s s') := fun y => by
    unfold S_put_31
    refine wm rfl (by omega) (by decide) (wsb (ws ?_))
    refine ⟨⟨⟨R, h, hh, H.keep (up_p (by omega)) (up_p (by omega)) (up_off (by omega))⟩, fun k hk => ?_, ?_, by rw [up_p (by omega)]; exact i4, fun k hk => by rw [up_p (by omega)]; exact i5 k hk⟩, up_p (by omega), fun k hk => up_off (by omega)⟩
    · obtain ⟨R, h, hh, H⟩ := i2 k hk
      exact ⟨R, h, hh, H.keep (up_p (by omega)) (up_p (by omega)) (up_off (by omega))⟩
    · unfold FI
      rw [up_off (by omega), up_off (by omega), up_off (by omega)]; exact i3
  refine wb (P := fun s' => IC s' ∧ SA s s') ?_ (fun s1 h1 => ws h1)
  unfold S_put
  exact wi (fun _ => t _) (fun _ => wi (fun _ => t _) (fun _ => t _))
theorem W_renew12 {b N : Nat} (hN : N ≤ 40) : ∀ (n r fu : Nat) (s : sg), r + n = N → n < fu → wp (S_renew_12 b (nI N) fu (nI r) s) (fun s' => ∀ p, p ≠ b + 1 → s' p = s p)
  | n, r, 0, s, hr, hf => absurd hf (by omega)
  | n, r, fu + 1, s, hr, hf => by
    rw [S_renew_12]
    refine wi (fun c => wi (fun _ => ?_) (fun _ => ws (fun _ _ => rfl))) (fun c => ws (fun _ _ => rfl))
    rw [nI_ltI (by omega) (by omega)] at c
    obtain ⟨n, rfl⟩ : ∃ m, n = m + 1 := ⟨n - 1, by omega⟩
    refine wm rfl (by omega) (by decide) (wsb ?_)
    rw [nI_add]
    exact wc (W_renew12 hN n (r + 1) fu _ (by omega) (by omega)) (fun a ha p hp => (ha p hp).trans (up_off hp))
/-- a sheet is made anew -/
theorem W_C_sheet (I : IC s) : wp (C_sheet x1 x2 x3 s) (fun v => IC v.2 ∧ v.2 27 1 = s 27 1 ∧ ((∀ k : Nat, k < 4 → v.2 (133 + 2 * k) = s (133 + 2 * k)) ∨ ∃ j l n : Nat, j < 4 ∧ l < 3 ∧ n ≤ 40 ∧ x1 = nI j ∧ x2 = nI l ∧ x3 = nI n ∧ v.2 (133 + 2 * j) 0 = nI l ∧ v.2 (133 + 2 * j) 1 = nI n ∧ ∀ k : Nat, k < 4 → k ≠ j → v.2 (133 + 2 * k) = s (133 + 2 * k))) := by
  have I0 := I
  obtain ⟨⟨R, h, hh, H⟩, i2, i3, i4, i5⟩ := I
  have z := fun (v : Int32 × sg) (e : v.2 = s) => (show IC v.2 ∧ v.2 27 1 = s 27 1 ∧ ((∀ k : Nat, k < 4 → v.2 (133 + 2 * k) = s (133 + 2 * k)) ∨ ∃ j l n : Nat, j < 4 ∧ l < 3 ∧ n ≤ 40 ∧ x1 = nI j ∧ x2 = nI l ∧ x3 = nI n ∧ v.2 (133 + 2 * j) 0 = nI l ∧ v.2 (133 + 2 * j) 1 = nI n ∧ ∀ k : Nat, k < 4 → k ≠ j → v.2 (133 + 2 * k) = s (133 + 2 * k)) from by rw [e]; exact ⟨I0, rfl, Or.inl (fun _ _ => rfl)⟩)
  unfold C_sheet
  refine wbB W_within (ws (z _ rfl)) (fun q => wbB W_within (ws (z _ rfl)) (fun q2 => wi (fun _ => ws (z _ rfl)) (fun c => wi (fun _ => ws (z _ rfl)) (fun c2 => ?_))))
  obtain ⟨j, -, hj, rfl⟩ := in_nI (by decide) q (by decide)
  obtain ⟨l, -, hl, rfl⟩ := in_nI (by decide) q2 (by decide)
  obtain ⟨n, hn, rfl⟩ := nI_of c2
  rw [nI_ltI (by decide) hn] at c
  refine wm rfl (by omega) (by decide) ?_
  refine wb (P := fun s' => s' (133 + 2 * j) 0 = nI l ∧ s' (133 + 2 * j) 1 = nI n ∧ ∀ p, p ≠ 133 + 2 * j → p ≠ 134 + 2 * j → s' p = s p) ?_ (fun s1 h1 => ws ?_)
  · unfold S_renew
    refine wsb (wsb (wc (W_renew12 (b := 133 + 2 * j) (by omega) n 0 FU _ (by omega) (by show n < 100000; omega)) (fun s' hs => ⟨?_, ?_, fun p h1 h2 => ?_⟩)))
    · rw [hs _ (by omega), up_k (by decide), up_eq]
    · rw [hs _ (by omega), up_eq]
    · rw [hs _ (by omega), up_off h1, up_off h1]
  · obtain ⟨e0, e1, off⟩ := h1
    dsimp only
    refine ⟨⟨⟨R, h, hh, H.keep (by rw [off _ (by omega) (by omega)]) (by rw [off _ (by omega) (by omega)]) (off _ (by omega) (by omega))⟩, fun k hk => ?_, ?_, by rw [off _ (by omega) (by omega)]; exact i4, fun k hk => ?_⟩, by rw [off _ (by omega) (by omega)], Or.inr ⟨j, l, n, by omega, by omega, by omega, rfl, rfl, rfl, e0, e1, fun k hk hkj => off _ (by omega) (by omega)⟩⟩
    · obtain ⟨R, h, hh, H⟩ := i2 k hk
      exact ⟨R, h, hh, H.keep (by rw [off _ (by omega) (by omega)]) (by rw [off _ (by omega) (by omega)]) (off _ (by omega) (by omega))⟩
    · unfold FI
      rw [off 23 (by omega) (by omega), off 24 (by omega) (by omega), off 25 (by omega) (by omega)]; exact i3
    · by_cases e : k = j
      · subst e; exact ⟨n, by omega, e1⟩
      · rw [off _ (by omega) (by omega)]; exact i5 k hk
theorem W_pair {b : Nat} : wp (S_faultAtPair b x1 x2 s) (fun v => v = 0 → (¬ x2 < 0 ∧ x2 < s b 1) ∧ ¬ x2 + nI 1 < 0 ∧ x2 + nI 1 < s b 1) := by
  unfold S_faultAtPair
  exact wb W_faultAt (fun v hv => wi (fun c => wb W_faultAt (fun w hw => ws (fun q => ⟨hv c, hw q⟩))) (fun c => ws (fun q => absurd q c)))
theorem W_read54 {j N : Nat} {s0 : sg} (I0 : IC s0) (hj : j < 4) (hN : N ≤ 20) {R : Nat} : ∀ (n r fu : Nat) (s : sg) (h : Nat) (x7 x8 : Int32), offT s0 s → HS s 53 R h → h ≤ 999 → r + n = N → n < fu → wp (C_read_54 x2 x3 (nI N) (133 + 2 * j) fu x7 x8 (nI r) s) (fun v => IC v.2 ∧ SA s0 v.2)
  | n, r, 0, s, h, x7, x8, o, H, hh, hr, hf => absurd hf (by omega)
  | n, r, fu + 1, s, h, x7, x8, o, H, hh, hr, hf => by
    have I := I0.t o
    have fin : wp (C_read_130 x7 x8 s) (fun v => IC v.2 ∧ SA s0 v.2) := by
      unfold C_read_130
      refine wb (W_copyFrom (b := 11) (c := 53) (Or.inl (by decide)) H) (fun s1 h1 => wsb (ws ?_))
      have g := I.1.n h1.2 ⟨R, h, hh, h1.1⟩
      obtain ⟨⟨⟨R', h', hh', H'⟩, i2, i3, i4, i5⟩, sa⟩ := g
      dsimp only
      refine ⟨⟨⟨R', h', hh', H'.keep (up_p (by decide)) (up_p (by decide)) (up_off (by decide))⟩, fun k hk => ?_, ?_, by rw [up_p (by decide)]; exact i4, fun k hk => by rw [up_p (by omega)]; exact i5 k hk⟩, ?_, fun k hk => ?_⟩
      · obtain ⟨R, h, hh, H⟩ := i2 k hk
        exact ⟨R, h, hh, H.keep (up_p (by omega)) (up_p (by omega)) (up_off (by omega))⟩
      · unfold FI
        rw [up_off (by decide), up_off (by decide), up_off (by decide)]; exact i3
      · rw [up_p (by decide), sa.1, I.2.1]
      · rw [up_off (by omega), sa.2 k hk, I.2.2 k hk]
    rw [C_read_54]
    refine wi (fun c => wi (fun _ => wb W_pair (fun v1 hv1 => wi (fun c1 => ?_) (fun _ => ?_))) (fun _ => fin)) (fun _ => fin)
    · rw [nI_ltI (by omega) (by omega)] at c
      obtain ⟨n, rfl⟩ : ∃ m, n = m + 1 := ⟨n - 1, by omega⟩
      obtain ⟨⟨a1, a2⟩, a3, a4⟩ := hv1 c1
      obtain ⟨m, hm, em⟩ := I.1.2.2.2.2 j hj
      obtain ⟨i, hi, ei⟩ := nI_of a1
      obtain ⟨i2, hi2, ei2⟩ := nI_of a3
      rw [em] at a2 a4
      rw [ei, nI_ltI hi (by omega)] at a2
      rw [ei2, nI_ltI hi2 (by omega)] at a4
      refine wm ei (by omega) (by decide) (wm ei2 (by omega) (by decide) (wb (W_takesMark H (by omega)) (fun v hv => ?_)))
      have o2 : offT s0 v.2 := o.tr (hv.2.1.t (by decide) (by decide))
      refine wi (fun _ => ws (I0.t o2)) (fun c4 => ?_)
      rw [nI_add r 1]
      rcases hv.2.2 with ⟨-, h9, H9⟩ | H9
      · exact W_read54 I0 hj hN n (r + 1) fu v.2 (h + 1) _ _ o2 H9 (by omega) (by omega) (by omega)
      · exact W_read54 I0 hj hN n (r + 1) fu v.2 h _ _ o2 H9 hh (by omega) (by omega)
    · rw [nI_ltI (by omega) (by omega)] at c
      obtain ⟨n, rfl⟩ : ∃ m, n = m + 1 := ⟨n - 1, by omega⟩
      rw [nI_add r 1]
      exact W_read54 I0 hj hN n (r + 1) fu s h _ _ o H hh (by omega) (by omega)
theorem W_C_read (I : IC s) : wp (C_read x1 x2 x3 x4 s) (fun v => IC v.2 ∧ SA s v.2) := by
  have I0 := I
  obtain ⟨⟨R, h, hh, H⟩, -⟩ := I
  unfold C_read
  refine wbB W_within (ws ⟨I0, SA.rf⟩) (fun q => wbB W_within (ws ⟨I0, SA.rf⟩) (fun _ => wbB W_within (ws ⟨I0, SA.rf⟩) (fun q2 => ?_)))
  obtain ⟨j, -, hj, rfl⟩ := in_nI (by decide) q (by decide)
  obtain ⟨N, -, hN, rfl⟩ := in_nI (by decide) q2 (by decide)
  exact wm rfl (by omega) (by decide) (wb (W_copyOfNow H) (fun s1 h1 => W_read54 I0 (by omega) hN N 0 FU s1 h _ _ h1.2 h1.1 hh (by omega) (by show N < 100000; omega)))
theorem W_C_count : wp (C_count x1 s) (fun _ => True) := by
  unfold C_count
  have t : ∀ y : Int32, wp (C_count_62 y s) (fun _ => True) := fun y => by
    unfold C_count_62
    exact wm rfl (by decide) (by decide) (wi (fun _ => ws trivial) (fun _ => ws trivial))
  exact wi (fun _ => ws trivial) (fun _ => wi (fun _ => wm rfl (by decide) (by decide) (wi (fun _ => t _) (fun _ => t _))) (fun _ => wi (fun _ => ws trivial) (fun _ => wi (fun _ => wbB W_isThere (ws trivial) (fun _ => ws trivial)) (fun _ => wi (fun _ => wb (W_sumOf (by decide)) (fun _ _ => ws trivial)) (fun _ => wi (fun _ => wb (W_sumOf (by decide)) (fun _ _ => ws trivial)) (fun _ => ws trivial))))))
end CALLS
