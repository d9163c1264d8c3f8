/-! what is felt, the fuse, sheets -/
def FI (s : sg) : Prop := (∃ n : Nat, n ≤ 6 ∧ s 23 3 = nI n) ∧ ∀ i : Nat, i < 6 → (∃ w : Nat, w < 6 ∧ s 25 i = nI w) ∧ ∃ a : Nat, a ≤ 20 ∧ s 24 i = nI a
theorem FI.t {s s' : sg} (H : FI s) (o : offT s s') : FI s' := by
  unfold FI
  rw [o 23 (by decide), o 24 (by decide), o 25 (by decide)]; exact H
section FELT
variable {s : sg} {R h b : Nat} {x x1 x2 x3 x4 x5 : Int32}
theorem W_last4 {m : Nat} (hm : m ≤ 6) (em : s 23 3 = nI m) (hF : ∀ i : Nat, i < 6 → ∃ a : Nat, a ≤ 20 ∧ s 24 i = nI a) : ∀ (n r fu y : Nat), y ≤ 20 → r + n = m → n < fu → wp (F_lastHour_4 s fu (nI y) (nI r)) (fun v => ∃ a : Nat, a ≤ 20 ∧ v = nI a)
  | n, r, 0, y, hy, hr, hf => absurd hf (by omega)
  | n, r, fu + 1, y, hy, hr, hf => by
    rw [F_lastHour_4, em]
    refine wi (fun c => ?_) (fun c => ws ⟨y, hy, rfl⟩)
    rw [nI_ltI (by omega) (by omega)] at c
    obtain ⟨n, rfl⟩ : ∃ m, n = m + 1 := ⟨n - 1, by omega⟩
    refine wm rfl (by omega) (by decide) ?_
    obtain ⟨a, ha, e⟩ := hF r (by omega)
    rw [e, nI_add]
    by_cases q : nI y < nI a
    · rw [if_pos q]; exact W_last4 hm em hF n (r + 1) fu a ha (by omega) (by omega)
    · rw [if_neg q]; exact W_last4 hm em hF n (r + 1) fu y hy (by omega) (by omega)
theorem W_lastHour (H : FI s) : wp (F_lastHour s) (fun v => ∃ a : Nat, a ≤ 20 ∧ v = nI a) := by
  unfold F_lastHour
  obtain ⟨⟨m, hm, em⟩, hF⟩ := H
  exact W_last4 hm em (fun i hi => (hF i hi).2) m 0 FU 0 (by omega) (by omega) (by show m < 100000; omega)
theorem W_hold2 {m : Nat} (hm : m ≤ 6) (em : s 23 3 = nI m) (hF : ∀ i : Nat, i < 6 → ∃ w : Nat, w < 6 ∧ s 25 i = nI w) : ∀ (n r fu : Nat), r + n = m → n < fu → wp (F_holdAt_2 b x1 s fu (nI r)) (yn True)
  | n, r, 0, hr, hf => absurd hf (by omega)
  | n, r, fu + 1, hr, hf => by
    rw [F_holdAt_2, em]
    refine wi (fun c => ?_) (fun c => ws (Or.inr ⟨rfl, trivial⟩))
    rw [nI_ltI (by omega) (by omega)] at c
    obtain ⟨n, rfl⟩ : ∃ m, n = m + 1 := ⟨n - 1, by omega⟩
    have k : wp (F_holdAt_2 b x1 s fu (nI r + nI 1)) (yn True) := by
      rw [nI_add]; exact W_hold2 hm em hF n (r + 1) fu (by omega) (by omega)
    obtain ⟨w, hw, e⟩ := hF r (by omega)
    exact wm rfl (by omega) (by decide) (wi (fun _ => wm rfl (by omega) (by decide) (wm e hw (by decide) (wm rfl (by omega) (by decide) (wi (fun _ => k) (fun _ => ws (Or.inl rfl)))))) (fun _ => k))
theorem W_holdAt (H : FI s) : wp (F_holdAt x1 b s) (yn True) := by
  unfold F_holdAt
  obtain ⟨⟨m, hm, em⟩, hF⟩ := H
  exact W_hold2 hm em (fun i hi => (hF i hi).1) m 0 FU (by omega) (by show m < 100000; omega)
theorem W_holdIn7 {N : Nat} (hN : N ≤ 20) (h1 : 53 ≤ b) (h2 : b + 7 ≤ 132) : ∀ (n r fu : Nat) (s : sg) (h : Nat), FI s → HS s b R h → h + n < 2 ^ 29 → r + n = N + 1 → n < fu → wp (F_holdIn_7 b (nI N) fu (nI r) s) (fun v => offT s v.2)
  | n, r, 0, s, h, F, H, hh, hr, hf => absurd hf (by omega)
  | n, r, fu + 1, s, h, F, H, hh, hr, hf => by
    rw [F_holdIn_7]
    refine wi (fun c => ws offT.rf) (fun c => wbB (W_holdAt F) (ws offT.rf) (fun _ => ?_))
    rw [nI_ltI (by omega) (by omega)] at c
    obtain ⟨n, rfl⟩ : ∃ m, n = m + 1 := ⟨n - 1, by omega⟩
    refine wb (W_passHour H (by omega)) (fun s1 g1 => ?_)
    have o := g1.2.t h1 h2
    rw [nI_add]
    exact wc (W_holdIn7 hN h1 h2 n (r + 1) fu s1 (h + 1) (F.t o) g1.1 (by omega) (by omega) (by omega)) (fun v hv => o.tr hv)
theorem W_holdIn (F : FI s) (H : HS s b R h) (h1 : 53 ≤ b) (h2 : b + 7 ≤ 132) (hh : h < 2 ^ 28) : wp (F_holdIn b s) (fun v => offT s v.2) := by
  unfold F_holdIn
  refine wb (W_lastHour F) (fun v hv => ?_)
  obtain ⟨N, hN, rfl⟩ := hv
  exact W_holdIn7 hN h1 h2 (N + 1) 0 FU s h F H (by omega) (by omega) (by show N + 1 < 100000; omega)
theorem W_kinds31 {j : Nat} (hj : j < 6) (hh : h ≤ 999) : ∀ (n r fu : Nat) (s : sg) (x2 : Int32), FI s → HS s 11 R h → r + n = 4 → n < fu → wp (C_kinds_31 (nI j) fu x2 (nI r) s) (fun v => offT s v.2)
  | n, r, 0, s, x2, F, H, hr, hf => absurd hf (by omega)
  | n, r, fu + 1, s, x2, F, H, hr, hf => by
    rw [C_kinds_31]
    refine wi (fun c => ws offT.rf) (fun c => ?_)
    rw [nI_ltI (by decide) (by omega)] at c
    obtain ⟨n, rfl⟩ : ∃ m, n = m + 1 := ⟨n - 1, by omega⟩
    refine wb (W_copyOfNow H) (fun s1 h1 => wm rfl hj (by decide) (wsb (wb (W_holdIn (F.t (h1.2.tr (offT.up (by decide)))) (h1.1.up4 (Or.inr ⟨r, by omega, rfl⟩)) (by decide) (by decide) (by omega)) (fun v hv => ?_))))
    have o : offT s v.2 := (h1.2.tr (offT.up (by decide))).tr hv
    have k : ∀ y : Int32, wp (C_kinds_31 (nI j) fu y (nI r + nI 1) v.2) (fun v => offT s v.2) := fun y => by
      rw [nI_add]
      exact wc (W_kinds31 hj hh n (r + 1) fu v.2 y (F.t o) (H.t o (by decide)) (by omega) (by omega)) (fun w hw => o.tr hw)
    exact wi (fun _ => k _) (fun _ => k _)
theorem W_C_kinds (F : FI s) (H : HS s 11 R h) (hh : h ≤ 999) : wp (C_kinds x1 s) (fun v => offT s v.2) := by
  unfold C_kinds
  refine wbB (W_hasRoom H) (ws offT.rf) (fun q0 => ?_)
  obtain ⟨j, hj, rfl⟩ := q0
  have hR := H.2.1
  exact wbB (W_hasTongue (by omega)) (ws offT.rf) (fun _ => W_kinds31 (by omega) hh 4 0 FU s _ F H (by omega) (by decide))
theorem W_leaks4 {j : Nat} (hj : j < 5) (hh : h ≤ 999) : ∀ (n r fu : Nat) (s : sg) (x2 : Int32), FI s → HS s 11 R h → r + n = 10 → n < fu → wp (C_leaksAsFelt_4 (nI j) fu x2 (nI r) s) (fun v => offT s v.2)
  | n, r, 0, s, x2, F, H, hr, hf => absurd hf (by omega)
  | n, r, fu + 1, s, x2, F, H, hr, hf => by
    rw [C_leaksAsFelt_4]
    refine wi (fun c => ws offT.rf) (fun c => ?_)
    rw [nI_ltI (by decide) (by omega)] at c
    obtain ⟨n, rfl⟩ : ∃ m, n = m + 1 := ⟨n - 1, by omega⟩
    refine wb (W_copyOfNow H) (fun s1 h1 => wm rfl hj (by decide) (wsb (wb (W_holdIn (F.t (h1.2.tr (offT.up (by decide)))) (h1.1.up6) (by decide) (by decide) (by omega)) (fun v hv => ?_))))
    have o : offT s v.2 := (h1.2.tr (offT.up (by decide))).tr hv
    have k : ∀ y : Int32, wp (C_leaksAsFelt_4 (nI j) fu y (nI r + nI 1) v.2) (fun v => offT s v.2) := fun y => by
      rw [nI_add]
      exact wc (W_leaks4 hj hh n (r + 1) fu v.2 y (F.t o) (H.t o (by decide)) (by omega) (by omega)) (fun w hw => o.tr hw)
    exact wi (fun _ => k _) (fun _ => k _)
theorem W_leaks {j : Nat} (hj : j < 5) (F : FI s) (H : HS s 11 R h) (hh : h ≤ 999) : wp (C_leaksAsFelt (nI j) s) (fun v => offT s v.2) := by
  unfold C_leaksAsFelt
  exact W_leaks4 hj hh 10 0 FU s _ F H (by omega) (by decide)
theorem W_C_lets (F : FI s) (H : HS s 11 R h) (hh : h ≤ 999) : wp (C_lets x1 s) (fun v => offT s v.2) := by
  unfold C_lets
  refine wbB (W_hasWall H) (ws offT.rf) (fun q0 => ?_)
  obtain ⟨j, hj, rfl⟩ := q0
  have hR := H.2.1
  exact wb (W_leaks (by omega) F H hh) (fun v hv => ws hv)
/-- the first m trials are houses -/
def TS (s : sg) (m R h : Nat) : Prop := ∀ i, i < m → HS s (53 + 8 * i) R h
theorem W_lay5 {j : Nat} (hj : j < 5) {s0 : sg} (H0 : HS s0 11 R h) : ∀ (n r fu m : Nat) (s : sg), offT s0 s → TS s m R h → m ≤ r → r + n = 10 → n < fu → wp (C_layOutTrials_5 (nI j) x2 fu (nI m) (nI r) s) (fun v => offT s0 v.2 ∧ ∃ m : Nat, m ≤ 10 ∧ v.1 = nI m ∧ TS v.2 m R h)
  | n, r, 0, m, s, o, T, hm, hr, hf => absurd hf (by omega)
  | n, r, fu + 1, m, s, o, T, hm, hr, hf => by
    have H : HS s 11 R h := H0.t o (by decide)
    rw [C_layOutTrials_5]
    refine wi (fun c => ws ⟨o, m, by omega, rfl, T⟩) (fun c => wi (fun c2 => ?_) (fun _ => ws ⟨o, m, by omega, rfl, T⟩))
    rw [nI_ltI (by decide) (by omega)] at c
    obtain ⟨n, rfl⟩ : ∃ m, n = m + 1 := ⟨n - 1, by omega⟩
    refine wi (fun _ => ?_) (fun _ => ?_)
    · refine wm rfl (by omega) (by decide) (wb (W_copyFrom (b := 53 + 8 * m) (c := 11) (Or.inr (by omega)) H) (fun s1 h1 => wm rfl (by omega) (by decide) (wm rfl hj (by decide) (wsb ?_))))
      rw [nI_add, nI_add]
      refine W_lay5 hj H0 n (r + 1) fu (m + 1) _ ((o.tr (h1.2.t (by omega) (by omega))).tr (offT.up (by omega))) (fun i hi => ?_) (by omega) (by omega) (by omega)
      by_cases e : i = m
      · subst e; exact h1.1.up6
      · refine (T i (by omega)).keep ?_ ?_ ?_
        · rw [up_p (by omega), h1.2 _ (by omega)]
        · rw [up_p (by omega), h1.2 _ (by omega)]
        · rw [up_off (by omega), h1.2 _ (by omega)]
    · rw [nI_add]
      exact W_lay5 hj H0 n (r + 1) fu m s o T (by omega) (by omega) (by omega)
theorem W_most17 {m j a : Nat} {k5 : Int32 → Int32 → Option Int32} (hm : m ≤ 10) (hj : j < 6) (ha : a < m) (hk : ∀ y, wp (k5 y (nI a + nI 1)) (fun _ => True)) : ∀ (n r fu : Nat) (x5 : Int32), r + n = m → n < fu → wp (C_mostAlike_17 k5 (nI m) (nI j) x3 (nI a) s fu x5 (nI r)) (fun _ => True)
  | n, r, 0, x5, hr, hf => absurd hf (by omega)
  | n, r, fu + 1, x5, hr, hf => by
    rw [C_mostAlike_17]
    refine wi (fun c => ?_) (fun c => hk _)
    rw [nI_ltI (by omega) (by omega)] at c
    obtain ⟨n, rfl⟩ : ∃ m, n = m + 1 := ⟨n - 1, by omega⟩
    have k : ∀ y : Int32, wp (C_mostAlike_17 k5 (nI m) (nI j) x3 (nI a) s fu y (nI r + nI 1)) (fun _ => True) := fun y => by
      rw [nI_add]; exact W_most17 hm hj ha hk n (r + 1) fu y (by omega) (by omega)
    exact wm rfl (by omega) (by decide) (wm rfl hj (by decide) (wm rfl (by omega) (by decide) (wm rfl hj (by decide) (wi (fun _ => k _) (fun _ => k _)))))
theorem W_most5 {m j : Nat} (hm : m ≤ 10) (hj : j < 6) : ∀ (n r fu : Nat) (x3 : Int32), r + n = m → n < fu → wp (C_mostAlike_5 (nI m) (nI j) s fu x3 (nI r)) (fun _ => True)
  | n, r, 0, x3, hr, hf => absurd hf (by omega)
  | n, r, fu + 1, x3, hr, hf => by
    rw [C_mostAlike_5]
    refine wi (fun c => ?_) (fun c => ws trivial)
    rw [nI_ltI (by omega) (by omega)] at c
    obtain ⟨n, rfl⟩ : ∃ m, n = m + 1 := ⟨n - 1, by omega⟩
    refine W_most17 hm hj c (fun y => ?_) m 0 FU _ (by omega) (by show m < 100000; omega)
    rw [nI_add]
    exact W_most5 hm hj n (r + 1) fu y (by omega) (by omega)
theorem W_mostAlike {m j : Nat} (hm : m ≤ 10) (hj : j < 6) : wp (C_mostAlike (nI m) (nI j) s) (fun _ => True) := by
  unfold C_mostAlike
  exact W_most5 hm hj m 0 FU _ (by omega) (by show m < 100000; omega)
theorem TS.step {m R h : Nat} {s s1 : sg} {r : Nat} (hT : TS s m R (h + 1) ∨ True) : True := trivial
theorem W_ask104 {m : Nat} {k43 : Int32 → Int32 → Int32 → sg → Option (Int32 × sg)} {s0 : sg} {y6 : Int32} (hm : m ≤ 10) (hh : h < 2 ^ 29) (hk : ∀ y4 y5 s, offT s0 s → TS s m R (h + 1) → wp (k43 y4 y5 (y6 + nI 1) s) (fun v => offT s0 v.2)) : ∀ (n r fu : Nat) (s : sg), offT s0 s → (∀ i, i < r → HS s (53 + 8 * i) R (h + 1)) → (∀ i, r ≤ i → i < m → HS s (53 + 8 * i) R h) → r + n = m → n < fu → wp (C_ask_104 k43 x2 (nI m) x4 x5 y6 fu (nI r) s) (fun v => offT s0 v.2)
  | n, r, 0, s, o, T1, T2, hr, hf => absurd hf (by omega)
  | n, r, fu + 1, s, o, T1, T2, hr, hf => by
    rw [C_ask_104]
    refine wi (fun c => ?_) (fun c => hk _ _ _ o (fun i hi => T1 i ?_))
    · rw [nI_ltI (by omega) (by omega)] at c
      obtain ⟨n, rfl⟩ : ∃ m, n = m + 1 := ⟨n - 1, by omega⟩
      refine wm rfl (by omega) (by decide) (wb (W_passHour (T2 r (Nat.le_refl r) c) (by omega)) (fun s1 h1 => ?_))
      rw [nI_add]
      refine W_ask104 hm hh hk n (r + 1) fu s1 (o.tr (h1.2.t (by omega) (by omega))) (fun i hi => ?_) (fun i hi hi2 => ?_) (by omega) (by omega)
      · by_cases e : i = r
        · subst e; exact h1.1
        · refine (T1 i (by omega)).keep ?_ ?_ ?_
          · rw [h1.2 _ (by omega)]
          · rw [h1.2 _ (by omega)]
          · rw [h1.2 _ (by omega)]
      · refine (T2 i (by omega) hi2).keep ?_ ?_ ?_
        · rw [h1.2 _ (by omega)]
        · rw [h1.2 _ (by omega)]
        · rw [h1.2 _ (by omega)]
    · rw [nI_ltI (by omega) (by omega)] at c; omega
theorem W_ask53 {m : Nat} {k43 : Int32 → Int32 → Int32 → sg → Option (Int32 × sg)} {s0 : sg} {y6 : Int32} {h2 : Nat} (H0 : HS s0 11 R h2) (hm : m ≤ 10) (hh : h < 2 ^ 29) (hk : ∀ y4 y5 s, offT s0 s → TS s m R (h + 1) → wp (k43 y4 y5 (y6 + nI 1) s) (fun v => offT s0 v.2)) : ∀ (n r fu : Nat) (s : sg) (x4 x5 : Int32), offT s0 s → TS s m R h → r + n = R → n < fu → wp (C_ask_53 k43 x2 (nI m) y6 fu x4 x5 (nI r) s) (fun v => offT s0 v.2)
  | n, r, 0, s, x4, x5, o, T, hr, hf => absurd hf (by omega)
  | n, r, fu + 1, s, x4, x5, o, T, hr, hf => by
    have H : HS s 11 R h2 := H0.t o (by decide)
    have hR := H.2.1
    rw [C_ask_53, H.1]
    refine wi (fun c => ?_) (fun c => W_ask104 hm hh hk m 0 FU s o (fun i hi => absurd hi (by omega)) (fun i _ hi => T i hi) (by omega) (by show m < 100000; omega))
    rw [nI_ltI (by omega) (by omega)] at c
    obtain ⟨n, rfl⟩ : ∃ m, n = m + 1 := ⟨n - 1, by omega⟩
    have k : ∀ y4 y5 : Int32, wp (C_ask_53 k43 x2 (nI m) y6 fu y4 y5 (nI r + nI 1) s) (fun v => offT s0 v.2) := fun y4 y5 => by
      rw [nI_add]
      exact W_ask53 H0 hm hh hk n (r + 1) fu s y4 y5 o T (by omega) (by omega)
    exact wb (W_mostAlike hm (by omega)) (fun v _ => wi (fun _ => k _ _) (fun _ => k _ _))
theorem W_ask43 {m : Nat} {s0 : sg} {h2 : Nat} (H0 : HS s0 11 R h2) (hm : m ≤ 10) : ∀ (n r fu : Nat) (s : sg) (h : Nat) (x4 x5 : Int32), h + n < 2 ^ 29 → offT s0 s → TS s m R h → r + n = 21 → n < fu → wp (C_ask_43 x2 (nI m) fu x4 x5 (nI r) s) (fun v => offT s0 v.2)
  | n, r, 0, s, h, x4, x5, hh, o, T, hr, hf => absurd hf (by omega)
  | n, r, fu + 1, s, h, x4, x5, hh, o, T, hr, hf => by
    rw [C_ask_43]
    refine wi (fun c => wb W_chosen (fun _ _ => ws o)) (fun c => ?_)
    rw [nI_ltI (by decide) (by omega)] at c
    obtain ⟨n, rfl⟩ : ∃ m, n = m + 1 := ⟨n - 1, by omega⟩
    refine W_ask53 H0 hm (by omega) (fun y4 y5 s' o' T' => ?_) R 0 FU s x4 x5 o T (by omega) (by have := H0.2.1; show R < 100000; omega)
    rw [nI_add]
    exact W_ask43 H0 hm n (r + 1) fu s' (h + 1) y4 y5 (by omega) o' T' (by omega) (by omega)
theorem W_C_ask (F : FI s) (H : HS s 11 R h) (hh : h ≤ 999) : wp (C_ask x1 x2 s) (fun v => offT s v.2) := by
  unfold C_ask
  refine wbB (W_hasWall H) (ws offT.rf) (fun q0 => wbB W_within (ws offT.rf) (fun _ => ?_))
  obtain ⟨j, hj, rfl⟩ := q0
  have hR := H.2.1
  refine wb (W_leaks (by omega) F H hh) (fun v3 h3 => ?_)
  refine wb (P := fun v => offT s v.2 ∧ ∃ m : Nat, m ≤ 10 ∧ v.1 = nI m ∧ TS v.2 m R h) ?_ (fun v4 h4 => ?_)
  · unfold C_layOutTrials
    exact W_lay5 (by omega) H 10 0 FU 0 v3.2 h3 (fun i hi => absurd hi (by omega)) (by omega) (by omega) (by decide)
  · obtain ⟨o, m, hm, e, T⟩ := h4
    rw [e]
    exact W_ask43 H hm 21 0 FU v4.2 h _ _ (by omega) o T (by omega) (by decide)
end FELT
