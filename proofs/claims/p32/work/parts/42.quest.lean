/-! the class's questions: they end, and write in the trial houses alone -/
def offT (s s' : sg) : Prop := ∀ p, ¬ (53 ≤ p ∧ p ≤ 132) → s' p = s p
theorem offT.rf {s : sg} : offT s s := fun _ _ => rfl
theorem offT.tr {s s' s'' : sg} (h1 : offT s s') (h2 : offT s' s'') : offT s s'' := fun p hp => (h2 p hp).trans (h1 p hp)
theorem offH.t {s s' : sg} {b : Nat} (o : offH b s s') (h1 : 53 ≤ b) (h2 : b + 7 ≤ 132) : offT s s' := fun p hp => o p (by omega)
theorem HS.t {s s' : sg} {b R h : Nat} (H : HS s b R h) (o : offT s s') (hb : b + 7 < 53) : HS s' b R h :=
  H.keep (by rw [o b (by omega)]) (by rw [o b (by omega)]) (o (b + 4) (by omega))
section QUEST
variable {s : sg} {R h : Nat} {x x1 x2 x3 x4 x5 : Int32}
theorem W_copyOfNow (H : HS s 11 R h) : wp (C_copyOfNow s) (fun s1 => HS s1 53 R h ∧ offT s s1) := by
  unfold C_copyOfNow
  exact wb (W_copyFrom (Or.inr (by decide)) H) (fun s1 h1 => ws ⟨h1.1, h1.2.t (by decide) (by decide)⟩)
theorem W_coldW13 {N : Nat} (hN : N < 1000) : ∀ (n r fu : Nat) (s : sg) (h : Nat) (x3 : Int32), HS s 53 R h → h + n < 2 ^ 29 → r + n = N → n < fu → wp (C_coldestWithin_13 (nI N) fu x3 (nI r) s) (fun v => offT s v.2)
  | n, r, 0, s, h, x3, H, hh, hr, hf => absurd hf (by omega)
  | n, r, fu + 1, s, h, x3, H, hh, hr, hf => by
    rw [C_coldestWithin_13]
    refine wi (fun c => ?_) (fun c => ws offT.rf)
    rw [nI_ltI (by omega) (by omega)] at c
    obtain ⟨n, rfl⟩ : ∃ m, n = m + 1 := ⟨n - 1, by omega⟩
    refine wb (W_passHour H (by omega)) (fun s1 h1 => wb (W_coldestNow h1.1) (fun v2 _ => ?_))
    rw [nI_add]
    exact wc (W_coldW13 hN n (r + 1) fu s1 (h + 1) _ h1.1 (by omega) (by omega) (by omega)) (fun v hv => (h1.2.t (by decide) (by decide)).tr hv)
theorem W_C_runs (H : HS s 11 R h) (hh : h ≤ 999) : wp (C_runs x1 x2 s) (fun v => offT s v.2) := by
  unfold C_runs
  refine wbB W_within (ws offT.rf) (fun q => wbB W_within (ws offT.rf) (fun _ => ?_))
  obtain ⟨N, -, hN, rfl⟩ := in_nI (by decide) q (by decide)
  refine wi (fun _ => wi (fun _ => ws offT.rf) (fun _ => ?_)) (fun _ => ?_)
  · refine wb (P := fun v => offT s v.2) ?_ (fun v hv => ws hv)
    unfold C_coldestWithin
    exact wb (W_copyOfNow H) (fun s1 h1 => wb (W_coldestNow h1.1) (fun v _ => wc (W_coldW13 (by omega) N 0 FU s1 h v h1.1 (by omega) (by omega) (by show N < 100000; omega)) (fun a ha => h1.2.tr ha)))
  · refine wb (W_copyOfNow H) (fun s1 h1 => wb (W_passHours (by omega) h1.1 (by omega)) (fun v hv => ?_))
    have o : offT s v.2 := h1.2.tr (hv.2.t (by decide) (by decide))
    exact wi (fun _ => ws o) (fun _ => wi (fun _ => ws o) (fun _ => wi (fun _ => wb W_warmthOfAll (fun _ _ => ws o)) (fun _ => ws o)))
theorem W_C_ahead (H : HS s 11 R h) (hh : h ≤ 999) : wp (C_ahead x1 x2 x3 s) (fun v => offT s v.2) := by
  unfold C_ahead
  refine wbB (W_hasRoom H) (ws offT.rf) (fun q0 => wbB W_within (ws offT.rf) (fun q => wbB W_within (ws offT.rf) (fun _ => ?_)))
  obtain ⟨j, hj, rfl⟩ := q0
  obtain ⟨N, -, hN, rfl⟩ := in_nI (by decide) q (by decide)
  have hR := H.2.1
  refine wb (W_copyOfNow H) (fun s1 h1 => wb (W_passHours (by omega) h1.1 (by omega)) (fun v hv => ?_))
  have o : offT s v.2 := h1.2.tr (hv.2.t (by decide) (by decide))
  exact wi (fun _ => wm rfl (by omega) (by decide) (ws o)) (fun _ => wbB W_isOn (ws o) (fun _ => ws o))
theorem W_cold31 {j : Nat} (hj : j < 6) : ∀ (n r fu : Nat) (s : sg) (h : Nat), HS s 53 R h → h + n < 2 ^ 29 → r + n = 61 → n < fu → wp (C_cold_31 (nI j) x2 fu (nI r) s) (fun v => offT s v.2)
  | n, r, 0, s, h, H, hh, hr, hf => absurd hf (by omega)
  | n, r, fu + 1, s, h, H, hh, hr, hf => by
    rw [C_cold_31]
    refine wi (fun c => ws offT.rf) (fun c => wm rfl hj (by decide) (wi (fun _ => ?_) (fun _ => ws offT.rf)))
    rw [nI_ltI (by decide) (by omega)] at c
    obtain ⟨n, rfl⟩ : ∃ m, n = m + 1 := ⟨n - 1, by omega⟩
    refine wb (W_passHour H (by omega)) (fun s1 h1 => ?_)
    rw [nI_add]
    exact wc (W_cold31 hj n (r + 1) fu s1 (h + 1) h1.1 (by omega) (by omega) (by omega)) (fun v hv => (h1.2.t (by decide) (by decide)).tr hv)
theorem W_C_cold (H : HS s 11 R h) (hh : h ≤ 999) : wp (C_cold x1 x2 s) (fun v => offT s v.2) := by
  unfold C_cold
  refine wbB (W_hasRoom H) (ws offT.rf) (fun q0 => wbB W_within (ws offT.rf) (fun _ => ?_))
  obtain ⟨j, hj, rfl⟩ := q0
  have hR := H.2.1
  exact wb (W_copyOfNow H) (fun s1 h1 => wc (W_cold31 (by omega) 61 0 FU s1 h h1.1 (by omega) (by omega) (by decide)) (fun v hv => h1.2.tr hv))
theorem W_again8 : ∀ (n q fu : Nat) (s : sg) (h : Nat), HS s 53 R h → h + 8 * n < 2 ^ 28 → q + n = 8 → n < fu → wp (C_again_8 fu (nI (8 * q)) s) (fun v => offT s v.2)
  | n, q, 0, s, h, H, hh, hr, hf => absurd hf (by omega)
  | n, q, fu + 1, s, h, H, hh, hr, hf => by
    rw [C_again_8]
    refine wi (fun c => ws offT.rf) (fun c => ?_)
    rw [nI_ltI (by decide) (by omega)] at c
    obtain ⟨n, rfl⟩ : ∃ m, n = m + 1 := ⟨n - 1, by omega⟩
    refine wb (W_passHours (N := 8) (by decide) H (by omega)) (fun v hv => ?_)
    have o := hv.2.t (by decide) (by decide)
    refine wbB (W_isLike hv.1) ?_ (fun _ => ws o)
    rw [nI_add, show 8 * q + 8 = 8 * (q + 1) by omega]
    exact wc (W_again8 n (q + 1) fu v.2 (h + 8) hv.1 (by omega) (by omega) (by omega)) (fun w hw => o.tr hw)
theorem W_C_again (H : HS s 11 R h) (hh : h ≤ 999) : wp (C_again s) (fun v => offT s v.2) := by
  unfold C_again
  exact wb (W_copyOfNow H) (fun s1 h1 => wc (W_again8 7 1 FU s1 h h1.1 (by omega) (by omega) (by decide)) (fun v hv => h1.2.tr hv))
theorem HS.up5 {b k : Nat} {v : Int32} (H : HS s b R h) : HS (up s (b + 5) k v) b R h := H.keep (up_p (by omega)) (up_p (by omega)) (by funext r; exact up_p (by omega))
theorem HS.up6 {b k : Nat} {v : Int32} (H : HS s b R h) : HS (up s (b + 6) k v) b R h := H.keep (up_p (by omega)) (up_p (by omega)) (by funext r; exact up_p (by omega))
theorem HS.up4 {b k : Nat} {v : Int32} (H : HS s b R h) (hv : tg v) : HS (up s (b + 4) k v) b R h := by
  refine ⟨(up_p (by omega)).trans H.1, H.2.1, (up_p (by omega)).trans H.2.2.1, fun r hr => ?_⟩
  by_cases e : r = k
  · subst e; rw [up_eq]; exact hv
  · rw [up_k e]; exact H.2.2.2 r hr
theorem offT.up {p k : Nat} {v : Int32} (h : 53 ≤ p ∧ p ≤ 132) : offT s (up s p k v) := fun q hq => up_off (by omega)
theorem W_need50 {j N : Nat} (hj : j < 6) (hN : N < 1000) (hh : h ≤ 999) : ∀ (n r fu : Nat) (s : sg), HS s 11 R h → r + n = 100 → n < fu → wp (C_need_50 (nI j) (nI N) x3 fu (nI r) s) (fun v => offT s v.2)
  | n, r, 0, s, H, hr, hf => absurd hf (by omega)
  | n, r, fu + 1, s, H, hr, hf => by
    rw [C_need_50]
    refine wi (fun c => ws offT.rf) (fun c => ?_)
    rw [nI_ltI (by decide) (by omega)] at c
    obtain ⟨n, rfl⟩ : ∃ m, n = m + 1 := ⟨n - 1, by omega⟩
    refine wb (W_copyOfNow H) (fun s1 h1 => wm rfl hj (by decide) (wsb (wb (W_staysWarm hN hj (h1.1.up5) (by omega)) (fun v hv => ?_))))
    have o : offT s v.2 := (h1.2.tr (offT.up (by decide))).tr (hv.2.t (by decide) (by decide))
    refine wi (fun _ => ?_) (fun _ => ws o)
    rw [nI_add]
    exact wc (W_need50 hj hN hh n (r + 1) fu v.2 (H.t o (by decide)) (by omega) (by omega)) (fun w hw => o.tr hw)
theorem W_C_need (H : HS s 11 R h) (hh : h ≤ 999) : wp (C_need x1 x2 x3 s) (fun v => offT s v.2) := by
  unfold C_need
  refine wbB (W_hasRoom H) (ws offT.rf) (fun q0 => wbB W_within (ws offT.rf) (fun q => wbB W_within (ws offT.rf) (fun _ => ?_)))
  obtain ⟨j, hj, rfl⟩ := q0
  obtain ⟨N, -, hN, rfl⟩ := in_nI (by decide) q (by decide)
  have hR := H.2.1
  exact wbB (W_hasTongue (by omega)) (ws offT.rf) (fun _ => W_need50 (by omega) (by omega) hh 100 0 FU s H (by omega) (by decide))
theorem W_chosen {u1 u2 u3 : Int32} : wp (C_chosen u1 u2 u3 s) (fun _ => True) := by
  unfold C_chosen
  exact wi (fun _ => ws trivial) (fun _ => wi (fun _ => ws trivial) (fun _ => ws trivial))
theorem W_kind58 {j N : Nat} (hj : j < 6) (hN : N < 1000) (hh : h ≤ 999) : ∀ (n r fu : Nat) (s : sg) (x4 x5 : Int32), HS s 11 R h → r + n = 4 → n < fu → wp (C_kind_58 (nI j) (nI N) x3 fu x4 x5 (nI r) s) (fun v => offT s v.2)
  | n, r, 0, s, x4, x5, H, hr, hf => absurd hf (by omega)
  | n, r, fu + 1, s, x4, x5, H, hr, hf => by
    rw [C_kind_58]
    refine wi (fun c => wb W_chosen (fun _ _ => ws offT.rf)) (fun c => ?_)
    rw [nI_ltI (by decide) (by omega)] at c
    obtain ⟨n, rfl⟩ : ∃ m, n = m + 1 := ⟨n - 1, by omega⟩
    refine wb (W_copyOfNow H) (fun s1 h1 => wm rfl hj (by decide) (wsb (wb (W_passHours hN (h1.1.up4 (Or.inr ⟨r, by omega, rfl⟩)) (by omega)) (fun v hv => ?_))))
    have o : offT s v.2 := (h1.2.tr (offT.up (by decide))).tr (hv.2.t (by decide) (by decide))
    have k : ∀ y4 y5 : Int32, wp (C_kind_58 (nI j) (nI N) x3 fu y4 y5 (nI r + nI 1) v.2) (fun v => offT s v.2) := fun y4 y5 => by
      rw [nI_add]
      exact wc (W_kind58 hj hN hh n (r + 1) fu v.2 y4 y5 (H.t o (by decide)) (by omega) (by omega)) (fun w hw => o.tr hw)
    exact wi (fun _ => k _ _) (fun _ => k _ _)
theorem W_C_kind (H : HS s 11 R h) (hh : h ≤ 999) : wp (C_kind x1 x2 x3 s) (fun v => offT s v.2) := by
  unfold C_kind
  refine wbB (W_hasRoom H) (ws offT.rf) (fun q0 => wbB W_within (ws offT.rf) (fun q => wbB W_within (ws offT.rf) (fun _ => ?_)))
  obtain ⟨j, hj, rfl⟩ := q0
  obtain ⟨N, -, hN, rfl⟩ := in_nI (by decide) q (by decide)
  have hR := H.2.1
  exact wbB (W_hasTongue (by omega)) (ws offT.rf) (fun _ => W_kind58 (by omega) (by omega) hh 4 0 FU s _ _ H (by omega) (by decide))
theorem W_swap55 {N a : Nat} {k37 : Int32 → Int32 → Int32 → sg → Option (Int32 × sg)} {s0 : sg} (hN : N < 1000) (hh : h ≤ 999) (ha : a < R) (H0 : HS s0 11 R h) (hk : ∀ y3 y4 s, offT s0 s → wp (k37 y3 y4 (nI a + nI 1) s) (fun v => offT s0 v.2)) : ∀ (n r fu : Nat) (s : sg) (x3 x4 : Int32), offT s0 s → r + n = R → n < fu → wp (C_swap_55 k37 (nI N) x2 (nI a) fu x3 x4 (nI r) s) (fun v => offT s0 v.2)
  | n, r, 0, s, x3, x4, o, hr, hf => absurd hf (by omega)
  | n, r, fu + 1, s, x3, x4, o, hr, hf => by
    have H : HS s 11 R h := H0.t o (by decide)
    have hR := H.2.1
    rw [C_swap_55, H.1]
    refine wi (fun c => ?_) (fun c => hk _ _ _ o)
    rw [nI_ltI (by omega) (by omega)] at c
    obtain ⟨n, rfl⟩ : ∃ m, n = m + 1 := ⟨n - 1, by omega⟩
    refine wb (W_copyOfNow H) (fun s1 h1 => wb (W_exT (by omega) (by omega) h1.1) (fun s2 h2 => wb (W_passHours hN h2.1 (by omega)) (fun v hv => ?_)))
    have o2 : offT s0 v.2 := (o.tr h1.2).tr ((h2.2.t (by decide) (by decide)).tr (hv.2.t (by decide) (by decide)))
    have k : ∀ y4 y5 : Int32, wp (C_swap_55 k37 (nI N) x2 (nI a) fu y4 y5 (nI r + nI 1) v.2) (fun v => offT s0 v.2) := fun y4 y5 => by
      rw [nI_add]
      exact W_swap55 hN hh ha H0 hk n (r + 1) fu v.2 y4 y5 o2 (by omega) (by omega)
    exact wi (fun _ => k _ _) (fun _ => k _ _)
theorem W_swap37 {N : Nat} {s0 : sg} (hN : N < 1000) (hh : h ≤ 999) (H0 : HS s0 11 R h) : ∀ (n r fu : Nat) (s : sg) (x3 x4 : Int32), offT s0 s → r + n = R → n < fu → wp (C_swap_37 (nI N) x2 fu x3 x4 (nI r) s) (fun v => offT s0 v.2)
  | n, r, 0, s, x3, x4, o, hr, hf => absurd hf (by omega)
  | n, r, fu + 1, s, x3, x4, o, hr, hf => by
    have H : HS s 11 R h := H0.t o (by decide)
    have hR := H.2.1
    rw [C_swap_37, H.1]
    refine wi (fun c => ?_) (fun c => wb W_chosen (fun _ _ => ws o))
    rw [nI_ltI (by omega) (by omega)] at c
    obtain ⟨n, rfl⟩ : ∃ m, n = m + 1 := ⟨n - 1, by omega⟩
    rw [nI_add]
    refine W_swap55 hN hh c H0 (fun y3 y4 s' o' => ?_) (R - (r + 1)) (r + 1) FU s x3 x4 o (by omega) (by show R - (r + 1) < 100000; omega)
    rw [nI_add]
    exact W_swap37 hN hh H0 n (r + 1) fu s' y3 y4 o' (by omega) (by omega)
theorem W_C_swap (H : HS s 11 R h) (hh : h ≤ 999) : wp (C_swap x1 x2 s) (fun v => offT s v.2) := by
  unfold C_swap
  refine wbB W_within (ws offT.rf) (fun q => wbB W_within (ws offT.rf) (fun _ => ?_))
  obtain ⟨N, -, hN, rfl⟩ := in_nI (by decide) q (by decide)
  refine wb (W_copyOfNow H) (fun s1 h1 => wb (W_passHours (by omega) h1.1 (by omega)) (fun v hv => ?_))
  have o : offT s v.2 := h1.2.tr (hv.2.t (by decide) (by decide))
  exact W_swap37 (by omega) hh H R 0 FU v.2 _ _ o (by omega) (by have := H.2.1; show R < 100000; omega)
theorem W_seal37 {N : Nat} {s0 : sg} (hN : N < 1000) (hh : h ≤ 999) (H0 : HS s0 11 R h) : ∀ (n r fu : Nat) (s : sg) (x3 x4 : Int32), offT s0 s → r + n = R → n < fu → wp (C_seal_37 (nI N) x2 fu x3 x4 (nI r) s) (fun v => offT s0 v.2)
  | n, r, 0, s, x3, x4, o, hr, hf => absurd hf (by omega)
  | n, r, fu + 1, s, x3, x4, o, hr, hf => by
    have H : HS s 11 R h := H0.t o (by decide)
    have hR := H.2.1
    rw [C_seal_37, H.1]
    refine wi (fun c => ?_) (fun c => wb W_chosen (fun _ _ => ws o))
    rw [nI_m1 (by omega) (by omega)] at c
    obtain ⟨n, rfl⟩ : ∃ m, n = m + 1 := ⟨n - 1, by omega⟩
    refine wb (W_copyOfNow H) (fun s1 h1 => wm rfl (by omega) (by decide) (wsb (wb (W_passHours hN (h1.1.up6) (by omega)) (fun v hv => ?_))))
    have o2 : offT s0 v.2 := ((o.tr h1.2).tr (offT.up (by decide))).tr (hv.2.t (by decide) (by decide))
    have k : ∀ y4 y5 : Int32, wp (C_seal_37 (nI N) x2 fu y4 y5 (nI r + nI 1) v.2) (fun v => offT s0 v.2) := fun y4 y5 => by
      rw [nI_add]
      exact W_seal37 hN hh H0 n (r + 1) fu v.2 y4 y5 o2 (by omega) (by omega)
    exact wi (fun _ => k _ _) (fun _ => k _ _)
theorem W_C_seal (H : HS s 11 R h) (hh : h ≤ 999) : wp (C_seal x1 x2 s) (fun v => offT s v.2) := by
  unfold C_seal
  refine wbB W_within (ws offT.rf) (fun q => wbB W_within (ws offT.rf) (fun _ => ?_))
  obtain ⟨N, -, hN, rfl⟩ := in_nI (by decide) q (by decide)
  refine wb (W_copyOfNow H) (fun s1 h1 => wb (W_passHours (by omega) h1.1 (by omega)) (fun v hv => ?_))
  have o : offT s v.2 := h1.2.tr (hv.2.t (by decide) (by decide))
  exact W_seal37 (by omega) hh H R 0 FU v.2 _ _ o (by omega) (by have := H.2.1; show R < 100000; omega)
theorem W_spare43 {N : Nat} {s0 : sg} (hN : N < 1000) (hh : h ≤ 999) (H0 : HS s0 11 R h) : ∀ (n r fu : Nat) (s : sg) (x4 x5 : Int32), offT s0 s → r + n = R → n < fu → wp (C_spare_43 (nI N) x2 x3 fu x4 x5 (nI r) s) (fun v => offT s0 v.2)
  | n, r, 0, s, x4, x5, o, hr, hf => absurd hf (by omega)
  | n, r, fu + 1, s, x4, x5, o, hr, hf => by
    have H : HS s 11 R h := H0.t o (by decide)
    have hR := H.2.1
    rw [C_spare_43, H.1]
    refine wi (fun c => ?_) (fun c => wb W_chosen (fun _ _ => ws o))
    rw [nI_ltI (by omega) (by omega)] at c
    obtain ⟨n, rfl⟩ : ∃ m, n = m + 1 := ⟨n - 1, by omega⟩
    have k : ∀ (y4 y5 : Int32) (s' : sg), offT s0 s' → wp (C_spare_43 (nI N) x2 x3 fu y4 y5 (nI r + nI 1) s') (fun v => offT s0 v.2) := fun y4 y5 s' o' => by
      rw [nI_add]
      exact W_spare43 hN hh H0 n (r + 1) fu s' y4 y5 o' (by omega) (by omega)
    refine wbB (W_hasTongue (by omega)) (k _ _ _ o) (fun _ => ?_)
    refine wb (W_copyOfNow H) (fun s1 h1 => wb (W_takeTongue (by omega) h1.1) (fun s2 h2 => wb (W_burntAllWarm hN h2.1 (by omega)) (fun v hv => ?_)))
    have o2 : offT s0 v.2 := (o.tr h1.2).tr ((h2.2.t (by decide) (by decide)).tr (hv.t (by decide) (by decide)))
    exact wi (fun _ => k _ _ _ o2) (fun _ => wi (fun _ => k _ _ _ o2) (fun _ => k _ _ _ o2))
theorem W_C_spare (H : HS s 11 R h) (hh : h ≤ 999) : wp (C_spare x1 x2 x3 s) (fun v => offT s v.2) := by
  unfold C_spare
  refine wbB W_within (ws offT.rf) (fun q => wbB W_within (ws offT.rf) (fun _ => wbB W_within (ws offT.rf) (fun _ => ?_)))
  obtain ⟨N, -, hN, rfl⟩ := in_nI (by decide) q (by decide)
  exact W_spare43 (by omega) hh H R 0 FU s _ _ offT.rf (by omega) (by have := H.2.1; show R < 100000; omega)
theorem W_drift46 {N : Nat} (hN : N < 1000) : ∀ (n r fu : Nat) (s : sg) (h : Nat) (x5 : Int32), HS s 53 R h → r + n = N → n < fu → wp (C_drift_46 (nI N) x3 fu x5 (nI r) s) (fun v => offT s v.2)
  | n, r, 0, s, h, x5, H, hr, hf => absurd hf (by omega)
  | n, r, fu + 1, s, h, x5, H, hr, hf => by
    rw [C_drift_46]
    refine wi (fun c => ?_) (fun c => wi (fun _ => ws offT.rf) (fun _ => wb W_warmthOfAll (fun _ _ => ws offT.rf)))
    rw [nI_ltI (by omega) (by omega)] at c
    obtain ⟨n, rfl⟩ : ∃ m, n = m + 1 := ⟨n - 1, by omega⟩
    refine wb (W_passHourBy H) (fun s1 h1 => ?_)
    rw [nI_add r 1]
    exact wc (W_drift46 hN n (r + 1) fu s1 (h + 1) _ h1.1 (by omega) (by omega)) (fun v hv => (h1.2.t (by decide) (by decide)).tr hv)
theorem W_C_drift (H : HS s 11 R h) : wp (C_drift x1 x2 x3 s) (fun v => offT s v.2) := by
  unfold C_drift
  refine wbB W_within (ws offT.rf) (fun q => wbB W_within (ws offT.rf) (fun _ => wi (fun _ => ws offT.rf) (fun _ => ?_)))
  obtain ⟨N, -, hN, rfl⟩ := in_nI (by decide) q (by decide)
  exact wb (W_copyOfNow H) (fun s1 h1 => wc (W_drift46 (by omega) N 0 FU s1 h x1 h1.1 (by omega) (by show N < 100000; omega)) (fun v hv => h1.2.tr hv))
end QUEST
