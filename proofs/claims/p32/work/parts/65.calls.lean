/-! calls that change something, told to both -/
section HRS
variable {s t : sg} {b R : Nat} {g : Nat → Int32} {x x1 x2 x3 x4 : Int32}
theorem hoursV_49 (hR : R ≤ 6) : ∀ (n h : Nat) (g : Nat → Int32), g 49 = nI h → hoursV R n g 49 = nI (h + n)
  | 0, h, g, e => e
  | n + 1, h, g, e => by rw [hoursV, hoursV_49 hR n (h + 1) _ (nextV_49 hR e), show h + 1 + n = h + (n + 1) by omega]
theorem X_ph7 {N : Nat} (hN : N < 1000) : ∀ (n r fu : Nat) (s : sg) (g : Nat → Int32) (h : Nat), HR s b g R → g 49 = nI h → h + n < 2 ^ 29 → r + n = N → n < fu → wp (H_passHours_7 b (nI N) x2 fu (nI r) s) (fun v => HR v.2 b (hoursV R n g) R ∧ offH b s v.2 ∧ v.1 = hoursV R n g 50 - x2)
  | n, r, 0, s, g, h, H, e, hh, hr, hf => absurd hf (by omega)
  | n, r, fu + 1, s, g, h, H, e, hh, hr, hf => by
    rw [H_passHours_7]
    refine wi (fun c => ?_) (fun c => ?_)
    · rw [nI_ltI (by omega) (by omega)] at c
      obtain ⟨n, rfl⟩ : ∃ m, n = m + 1 := ⟨n - 1, by omega⟩
      refine wb (X_passHour H e (by omega)) (fun s1 h1 => ?_)
      rw [nI_add]
      exact wc (X_ph7 hN n (r + 1) fu s1 _ (h + 1) h1.1 (nextV_49 H.r6 e) (by omega) (by omega) (by omega)) (fun v hv => ⟨hv.1, h1.2.tr hv.2.1, hv.2.2⟩)
    · rw [nI_ltI (by omega) (by omega)] at c
      obtain rfl : n = 0 := by omega
      refine ws ⟨H, offH.rf, ?_⟩
      show s b 3 - x2 = g 50 - x2
      rw [H.bu.1]
theorem X_passHours {N h : Nat} (hN : N < 1000) (H : HR s b g R) (e : g 49 = nI h) (hh : h < 2 ^ 28) : wp (H_passHours b (nI N) s) (fun v => HR v.2 b (hoursV R N g) R ∧ offH b s v.2 ∧ v.1 = hoursV R N g 50 - g 50) := by
  unfold H_passHours
  rw [H.bu.1]
  exact X_ph7 hN N 0 FU s g h H e (by omega) (by omega) (by show N < 100000; omega)
theorem Y_h42 {N : Nat} (hN : N < 1000) (hR : R ≤ 6) : ∀ (n r fu : Nat) (t : sg) (h : Nat), t 10 1 = nI R → pg t 0 49 = nI h → h + n < 2 ^ 29 → r + n = N → n < fu → wp (M_hours_42 (nI N) x2 fu (nI r) t) (fun v => pg v.2 0 = hoursV R n (pg t 0) ∧ offP 0 t v.2 ∧ v.1 = hoursV R n (pg t 0) 50 - x2)
  | n, r, 0, t, h, e1, e, hh, hr, hf => absurd hf (by omega)
  | n, r, fu + 1, t, h, e1, e, hh, hr, hf => by
    rw [M_hours_42]
    refine wi (fun c => ?_) (fun c => ?_)
    · rw [nI_ltI (by omega) (by omega)] at c
      obtain ⟨n, rfl⟩ : ∃ m, n = m + 1 := ⟨n - 1, by omega⟩
      refine wb (Y_goesOn (by decide) hR e1 e (by omega)) (fun t1 h1 => ?_)
      rw [nI_add]
      refine wc (Y_h42 hN hR n (r + 1) fu t1 (h + 1) ((h1.2 10 1 (by omega) (by decide)).trans e1) (by rw [h1.1]; exact nextV_49 hR e) (by omega) (by omega) (by omega)) (fun v hv => ?_)
      rw [h1.1] at hv
      exact ⟨hv.1, h1.2.tr hv.2.1, hv.2.2⟩
    · rw [nI_ltI (by omega) (by omega)] at c
      obtain rfl : n = 0 := by omega
      refine wm rfl (by decide) (by decide) (ws ⟨rfl, offP.rf, ?_⟩)
      show t 11 50 - x2 = pg t 0 50 - x2
      rw [pg0]
theorem RG.hh {h : Nat} {R' : Nat} (G : RG s t R) (H : HS s 11 R' h) : pg t 0 49 = nI h := G.h.hr.symm.trans H.2.2.1
theorem J_hours (F : RF s t) : w2 (C_hours x1 s) (M_hours x1 t) JF := by
  obtain ⟨⟨R, G⟩, I, M⟩ := F
  refine J.fin ?_ (W_C_hours I) (fun _ h => h.1) (V_M_hours M) (fun _ h => h.1)
  have H := G.h
  have h6 := H.r6
  obtain ⟨R', h, hh, Hs⟩ := I.1
  have e9 := G.hh Hs
  unfold C_hours M_hours
  refine w2P within_eq (inP (by decide) (by decide)) (fun _ => w2s ⟨rfl, R, G⟩) (fun c1 => ?_)
  obtain ⟨N, hN, rfl⟩ := in_j (by decide) c1
  refine w2r rfl (by decide) (by decide) ?_
  have e : s 11 2 = t 11 49 := by rw [H.hr, pg0]
  rw [e]
  refine w2i (fun _ => w2s ⟨rfl, R, G⟩) (fun _ => ?_)
  refine w2r rfl (by decide) (by decide) ?_
  refine w2bl (X_passHours (by omega) H e9 (by omega)) (fun v hv => ?_)
  obtain ⟨w, ew, hw⟩ := Y_h42 (x2 := t 11 50) (N := N) (by omega) h6 N 0 FU t h G.r e9 (by omega) (by omega) (by show N < 100000; omega)
  refine ⟨_, w, rfl, ew, ?_, R, ?_⟩
  · show v.1 = w.1
    rw [hv.2.2, hw.2.2, pg0]
  · refine G.fr (fun p q1 q2 => hv.2.1 p (by omega)) hw.2.1.g ?_
    rw [hw.1]
    exact hv.1
theorem pgE {t' : sg} {p : Nat} (h : t' 11 = t 11) : pg t' p = pg t p := by unfold pg; rw [h]
theorem fput_eq {m : Nat} (hm : m < 6) (e : s 23 3 = nI m) : F_put x1 x2 x3 s = some (nI 1, up (up (up (up s 24 m x1) 25 m x2) 26 m x3) 23 3 (nI (m + 1))) := by
  unfold F_put
  rw [e, if_pos ((nI_ltI (by omega) (by decide)).mpr hm), midx_nI hm (by decide)]
  show (midx ((up s 24 m x1) 23 3) 6).bind _ = _
  rw [up_p (by decide), e, midx_nI hm (by decide)]
  show (midx ((up (up s 24 m x1) 25 m x2) 23 3) 6).bind _ = _
  rw [up_p (by decide), up_p (by decide), e, midx_nI hm (by decide)]
  show some (nI 1, up (up (up (up s 24 m x1) 25 m x2) 26 m x3) 23 3 ((up (up (up s 24 m x1) 25 m x2) 26 m x3) 23 3 + nI 1)) = _
  rw [up_p (by decide), up_p (by decide), up_p (by decide), e, nI_add]
theorem J_see (F : RF s t) : w2 (C_see x1 x2 x3 s) (M_see x1 x2 x3 t) JF := by
  obtain ⟨⟨R, G⟩, I, M⟩ := F
  refine J.fin ?_ (W_C_see I) (fun _ h => h.1) (V_M_see M) (fun _ h => h.1)
  have H := G.h
  have h6 := H.r6
  have no : w2 (some ((-1 : Int32), s)) (some ((-1 : Int32), t)) JQ := w2s ⟨rfl, R, G⟩
  unfold C_see M_see
  refine w2P within_eq (inP (by decide) (by decide)) (fun _ => no) (fun c1 => ?_)
  refine w2P (hasRoom_P H.rm) (isRoom_P G.r h6) (fun _ => no) (fun c2 => ?_)
  refine w2P within_eq (inP (by decide) (by decide)) (fun _ => no) (fun c3 => ?_)
  obtain ⟨m, hm, e1, e2, e3⟩ := G.fe
  by_cases c : m = 6
  · subst c
    rw [e2, if_pos rfl]
    unfold F_put
    rw [e1, if_neg (by decide)]
    refine w2sl ?_
    dsimp only
    rw [if_pos (by decide)]
    exact w2s ⟨rfl, R, G⟩
  · have hm' : m < 6 := by omega
    rw [e2, if_neg (i32_ne c (by omega) (by decide)), fput_eq hm' e1]
    refine w2sl ?_
    dsimp only
    rw [if_neg (by decide)]
    refine w2r (pk_mul 3 m) (by omega) (by decide) (w2sr ?_)
    rw [up_p (show 10 ≠ 17 by decide), e2]
    refine w2r (show nI 3 * nI m + nI 1 = nI (3 * m + 1) by rw [pk_mul, nI_add]) (by omega) (by decide) (w2sr ?_)
    rw [up_p (show 10 ≠ 17 by decide), up_p (show 10 ≠ 17 by decide), e2]
    refine w2r (show nI 3 * nI m + nI 2 = nI (3 * m + 2) by rw [pk_mul, nI_add]) (by omega) (by decide) (w2sr (w2sr ?_))
    rw [up_eq, up_eq, up_p (show 10 ≠ 17 by decide), up_p (show 10 ≠ 17 by decide), up_p (show 10 ≠ 17 by decide), e2, nI_add]
    refine w2s ⟨rfl, R, ?_⟩
    have oS : ∀ p, ¬ (23 ≤ p ∧ p ≤ 26) → (up (up (up (up s 24 m x1) 25 m x2) 26 m x3) 23 3 (nI (m + 1))) p = s p := fun p hp => by
      rw [up_off (by omega), up_off (by omega), up_off (by omega), up_off (by omega)]
    have oT : ∀ q, q ≠ 17 → q ≠ 10 → (up (up (up (up t 17 (3 * m) x1) 17 (3 * m + 1) x2) 17 (3 * m + 2) x3) 10 22 (nI (m + 1))) q = t q := fun q h1 h2 => by
      rw [up_off h2, up_off h1, up_off h1, up_off h1]
    have oO : ∀ k, k ≠ 22 → (up (up (up (up t 17 (3 * m) x1) 17 (3 * m + 1) x2) 17 (3 * m + 2) x3) 10 22 (nI (m + 1))) 10 k = t 10 k := fun k hk => by
      rw [up_k hk, up_p (by decide), up_p (by decide), up_p (by decide)]
    refine ⟨(oO 1 (by decide)).trans G.r, ?_, ?_, ?_, ?_, ?_, ?_, ?_⟩
    · show HR _ 11 (pg (up (up (up (up t 17 (3 * m) x1) 17 (3 * m + 1) x2) 17 (3 * m + 2) x3) 10 22 (nI (m + 1))) 0) R
      rw [pgE (oT 11 (by decide) (by decide))]
      exact H.off (fun p q1 q2 => oS p (by omega))
    · exact G.kp.k (oS 20 (by omega)) (fun p _ _ => oS p (by omega)) (oT 19 (by decide) (by decide)) (fun k _ _ => by dsimp only; rw [oT 11 (by decide) (by decide)])
    · exact G.tp.k (by dsimp only; rw [oS 27 (by omega)]) (oS 28 (by omega)) (oO 8 (by decide)) (oT 13 (by decide) (by decide))
    · show FE (up (up (up (up s 24 m x1) 25 m x2) 26 m x3) 23 3 (nI (m + 1))) (up (up (up (up t 17 (3 * m) x1) 17 (3 * m + 1) x2) 17 (3 * m + 2) x3) 10 22 (nI (m + 1))) R
      refine ⟨m + 1, by omega, up_eq, up_eq, fun i hi => ?_⟩
      rw [up_p (show 24 ≠ 23 by decide), up_p (show 24 ≠ 26 by decide), up_p (show 24 ≠ 25 by decide), up_p (show 25 ≠ 23 by decide), up_p (show 25 ≠ 26 by decide), up_p (show 26 ≠ 23 by decide), up_p (show 17 ≠ 10 by decide), up_p (show 17 ≠ 10 by decide), up_p (show 17 ≠ 10 by decide)]
      by_cases z : i = m
      · subst z
        rw [up_eq, up_eq, up_eq]
        refine ⟨⟨?_, ?_, ?_⟩, room_j h6 c2⟩
        · rw [up_k (by omega), up_k (by omega), up_eq]
        · rw [up_k (by omega), up_eq]
        · rw [up_eq]
      · rw [up_k z, up_k z, up_p (show 25 ≠ 24 by decide), up_k z, up_p (show 26 ≠ 25 by decide), up_p (show 26 ≠ 24 by decide)]
        rw [up_k (by omega), up_k (by omega), up_k (by omega), up_k (by omega), up_k (by omega), up_k (by omega), up_k (by omega), up_k (by omega), up_k (by omega)]
        exact e3 i (by omega)
    · exact G.sh.k (fun p _ _ => oS p (by omega)) (oT 20 (by decide) (by decide)) (oT 21 (by decide) (by decide)) (oT 22 (by decide) (by decide))
    · dsimp only
      rw [oS 10 (by omega), oO 28 (by decide)]; exact G.tn
    · exact G.lt.k (oT 14 (by decide) (by decide)) (oT 15 (by decide) (by decide))
theorem J_forget (F : RF s t) : w2 (C_forget x1 s) (M_forget x1 t) JF := by
  obtain ⟨⟨R, G⟩, I, M⟩ := F
  refine J.fin ?_ (W_C_forget I) (fun _ h => h.1) (V_M_forget M) (fun _ h => h.1)
  have H := G.h
  obtain ⟨m, hm, e1, e2, e3⟩ := G.fe
  unfold C_forget M_forget
  rw [e1, e2]
  refine w2P within_eq (inP (by decide) rfl) (fun _ => w2s ⟨rfl, R, G⟩) (fun c1 => ?_)
  obtain ⟨j, hj, rfl⟩ := in_j (by omega) c1
  refine w2sl (w2sr (w2s ⟨rfl, R, ?_⟩))
  have oS : ∀ p, p ≠ 23 → (up s 23 3 (nI j)) p = s p := fun p hp => up_off hp
  have oT : ∀ q, q ≠ 10 → (up t 10 22 (nI j)) q = t q := fun q h => up_off h
  have oO : ∀ k, k ≠ 22 → (up t 10 22 (nI j)) 10 k = t 10 k := fun k hk => up_k hk
  refine ⟨(oO 1 (by decide)).trans G.r, ?_, ?_, ?_, ?_, ?_, ?_, ?_⟩
  · show HR _ 11 (pg (up t 10 22 (nI j)) 0) R
    rw [pgE (oT 11 (by decide))]
    exact H.off (fun p q1 q2 => oS p (by omega))
  · exact G.kp.k (oS 20 (by omega)) (fun p _ _ => oS p (by omega)) (oT 19 (by decide)) (fun k _ _ => by dsimp only; rw [oT 11 (by decide)])
  · exact G.tp.k (by dsimp only; rw [oS 27 (by omega)]) (oS 28 (by omega)) (oO 8 (by decide)) (oT 13 (by decide))
  · show FE (up s 23 3 (nI j)) (up t 10 22 (nI j)) R
    refine ⟨j, by omega, up_eq, up_eq, fun i hi => ?_⟩
    rw [oS 24 (by decide), oS 25 (by decide), oS 26 (by decide), oT 17 (by decide)]
    exact e3 i (by omega)
  · exact G.sh.k (fun p _ _ => oS p (by omega)) (oT 20 (by decide)) (oT 21 (by decide)) (oT 22 (by decide))
  · dsimp only
    rw [oS 10 (by omega), oO 28 (by decide)]; exact G.tn
  · exact G.lt.k (oT 14 (by decide)) (oT 15 (by decide))
theorem cpM_at {a c i : Nat} (hi : i < 52) : pg (cpM t a c 52) c i = pg t a i := by
  unfold pg cpM
  rw [if_pos ⟨rfl, by omega, by omega⟩, show a + (c + i - c) = a + i by omega]
theorem cpM_ne {a c q k : Nat} (h : q ≠ 11 ∨ k < c ∨ c + 52 ≤ k) : cpM t a c 52 q k = t q k := by
  unfold cpM
  rw [if_neg (by omega)]
theorem HR.copy {c : Nat} (H : HR s c g R) : HR (cpH s b c) b g R :=
  H.cp (fun k hk => by have h := @cpH_at s b c 0 k (by decide) (by show k < 5; exact hk); exact h) (fun i k h1 h2 hk => cpH_at h2 hk)
theorem J_keep (F : RF s t) : w2 (C_keep x1 s) (M_keep x1 t) JF := by
  obtain ⟨⟨R, G⟩, I, M⟩ := F
  refine J.fin ?_ (W_C_keep I) (fun _ h => h.1) (V_M_keep M) (fun _ h => h.1)
  have H := G.h
  unfold C_keep M_keep
  refine w2P within_eq (inP (by decide) (by decide)) (fun _ => w2s ⟨rfl, R, G⟩) (fun c1 => ?_)
  obtain ⟨j, hj, rfl⟩ := in_j (by decide) c1
  rw [nI_add, pk_mul, copies_eq (by decide) (by omega) (by omega)]
  refine w2l rfl (by omega) (by decide) (w2sr (w2r rfl (by omega) (by decide) ?_))
  have k1 : vp_nar .boolean (nI 1) = nI 1 := by decide
  have fin : ∀ y : Int32, w2 (C_keep_25 (nI j) y s) (M_keep_37 (nI j) y (cpM t 0 (52 * (j + 1)) 52)) JQ := fun y => by
    unfold C_keep_25 M_keep_37
    refine w2l rfl (by omega) (by decide) ?_
    rw [copyFrom_eq (show dj (37 + 8 * j) 11 from Or.inr (by omega)), k1]
    refine w2sl (w2l rfl (by omega) (by decide) (w2sl (w2r rfl (by omega) (by decide) (w2sr ?_))))
    refine w2s ⟨rfl, R, ?_⟩
    have oS : ∀ p, p ≠ 20 → ¬ (37 + 8 * j ≤ p ∧ p ≤ 37 + 8 * j + 7) → (up (cpH s (37 + 8 * j) 11) 20 j (nI 1)) p = s p := fun p h1 h2 => by
      rw [up_off h1]; exact cpH_off p (by omega)
    have oT : ∀ q, q ≠ 11 → q ≠ 19 → (up (cpM t 0 (52 * (j + 1)) 52) 19 j (nI 1)) q = t q := fun q h1 h2 => by
      rw [up_off h2]; funext k; exact cpM_ne (Or.inl h1)
    have oP : ∀ k, k < 52 * (j + 1) ∨ 52 * (j + 1) + 52 ≤ k → (up (cpM t 0 (52 * (j + 1)) 52) 19 j (nI 1)) 11 k = t 11 k := fun k hk => by
      rw [up_p (by decide)]; exact cpM_ne (Or.inr hk)
    refine ⟨?_, ?_, ?_, ?_, ?_, ?_, ?_, ?_⟩
    · dsimp only; rw [oT 10 (by decide) (by decide)]; exact G.r
    · refine HR.e (H.off (fun p q1 q2 => oS p (by omega) (by omega))) (fun i hi => ?_)
      rw [pg0, pg0]
      exact oP i (by omega)
    · intro k hk
      dsimp only
      by_cases z : k = j
      · subst z
        refine Or.inr ⟨up_eq, up_eq, ?_⟩
        refine HR.e (HR.off (H.copy (b := 37 + 8 * k)) (fun p q1 q2 => up_off (by omega))) (fun i hi => ?_)
        rw [pg_16 (by decide)]
        exact cpM_at hi
      · rw [up_k z, up_k z, show cpH s (37 + 8 * j) 11 20 k = s 20 k from congrFun (cpH_off 20 (by omega)) k, cpM_ne (Or.inl (by decide))]
        rcases G.kp k hk with q | ⟨q1, q2, q3⟩
        · exact Or.inl q
        · refine Or.inr ⟨q1, q2, ?_⟩
          refine HR.e (q3.off (fun p z1 z2 => oS p (by omega) (by omega))) (fun i hi => ?_)
          unfold pg
          exact oP _ (by omega)
    · exact G.tp.k (by dsimp only; rw [oS 27 (by omega) (by omega)]) (oS 28 (by omega) (by omega)) (by dsimp only; rw [oT 10 (by decide) (by decide)]) (oT 13 (by decide) (by decide))
    · exact G.fe.k (oS 23 (by omega) (by omega)) (oS 24 (by omega) (by omega)) (oS 25 (by omega) (by omega)) (oS 26 (by omega) (by omega)) (by dsimp only; rw [oT 10 (by decide) (by decide)]) (oT 17 (by decide) (by decide))
    · exact G.sh.k (fun p _ _ => oS p (by omega) (by omega)) (oT 20 (by decide) (by decide)) (oT 21 (by decide) (by decide)) (oT 22 (by decide) (by decide))
    · dsimp only
      rw [oS 10 (by omega) (by omega), oT 10 (by decide) (by decide)]; exact G.tn
    · exact G.lt.k (oT 14 (by decide) (by decide)) (oT 15 (by decide) (by decide))
  rw [cpM_ne (Or.inl (by decide))]
  rcases G.kp j (by omega) with ⟨q1, q2⟩ | ⟨q1, q2, _⟩
  · rw [q1, q2, if_pos (by decide), if_pos (by decide)]; exact fin _
  · rw [q1, q2, if_neg (by decide), if_neg (by decide)]; exact fin _
theorem J_back (F : RF s t) : w2 (C_back x1 s) (M_back x1 t) JF := by
  obtain ⟨⟨R, G⟩, I, M⟩ := F
  refine J.fin ?_ (W_C_back I) (fun _ h => h.1) (V_M_back M) (fun _ h => h.1)
  have H := G.h
  unfold C_back M_back
  refine w2P within_eq (inP (by decide) (by decide)) (fun _ => w2s ⟨rfl, R, G⟩) (fun c1 => ?_)
  obtain ⟨j, hj, rfl⟩ := in_j (by decide) c1
  refine w2l rfl (by omega) (by decide) (w2r rfl (by omega) (by decide) ?_)
  rcases G.kp j (by omega) with ⟨q1, q2⟩ | ⟨q1, q2, q3⟩
  · rw [q1, q2, if_pos (by decide), if_pos (by decide)]; exact w2s ⟨rfl, R, G⟩
  · rw [q1, q2, if_neg (by decide), if_neg (by decide), nI_add, pk_mul, copies_eq (by omega) (by decide) (by omega)]
    refine w2l rfl (by omega) (by decide) ?_
    rw [copyFrom_eq (show dj 11 (37 + 8 * j) from Or.inl (by omega))]
    refine w2sl (w2sr (w2r rfl (by decide) (by decide) ?_))
    have H' : HR (cpH s 11 (37 + 8 * j)) 11 (pg (cpM t (52 * (j + 1)) 0 52) 0) R := HR.e q3.copy (fun i hi => cpM_at hi)
    refine w2s ⟨?_, R, ?_⟩
    · show cpH s 11 (37 + 8 * j) 11 2 = cpM t (52 * (j + 1)) 0 52 11 49
      rw [H'.hr, pg0]
    · exact G.fr (fun p z1 z2 => cpH_off p (by omega)) (fun q k a _ _ _ => cpM_ne (by omega)) H'
theorem X_ren12 {N : Nat} (hN : N ≤ 40) : ∀ (n r fu : Nat) (s : sg), (∀ i, i < r → s (b + 1) i = nI 0) → r + n = N → n < fu → wp (S_renew_12 b (nI N) fu (nI r) s) (fun s' => (∀ p, p ≠ b + 1 → s' p = s p) ∧ ∀ i, i < N → s' (b + 1) i = nI 0)
  | n, r, 0, s, h, hr, hf => absurd hf (by omega)
  | n, r, fu + 1, s, h, hr, hf => by
    rw [S_renew_12]
    refine wi (fun c => ?_) (fun c => ?_)
    · rw [nI_ltI (by omega) (by omega)] at c
      obtain ⟨n, rfl⟩ : ∃ m, n = m + 1 := ⟨n - 1, by omega⟩
      refine wi (fun c2 => ?_) (fun c2 => absurd ((nI_ltI (by omega) (by decide)).mpr (by omega)) c2)
      refine wm rfl (by omega) (by decide) (wsb ?_)
      rw [nI_add]
      refine wc (X_ren12 hN n (r + 1) fu _ (fun i hi => ?_) (by omega) (by omega)) (fun a ha => ⟨fun p hp => (ha.1 p hp).trans (up_off hp), ha.2⟩)
      by_cases z : i = r
      · rw [z, up_eq]
      · rw [up_k z]; exact h i (by omega)
    · rw [nI_ltI (by omega) (by omega)] at c
      obtain rfl : r = N := by omega
      exact ws ⟨fun _ _ => rfl, h⟩
theorem Y_sh56 {j : Nat} (hj : j < 4) : ∀ (n r fu : Nat) (t : sg), (∀ i, i < r → t 22 (40 * j + i) = nI 0) → r + n = 40 → n < fu → wp (M_sheet_56 (nI j) fu (nI r) t) (fun v => v.1 = nI 1 ∧ (∀ p, p ≠ 22 → v.2 p = t p) ∧ (∀ k, ¬ (40 * j ≤ k ∧ k < 40 * j + 40) → v.2 22 k = t 22 k) ∧ ∀ i, i < 40 → v.2 22 (40 * j + i) = nI 0)
  | n, r, 0, t, h, hr, hf => absurd hf (by omega)
  | n, r, fu + 1, t, h, hr, hf => by
    rw [M_sheet_56]
    refine wi (fun c => ?_) (fun c => ?_)
    · rw [nI_ltI (by omega) (by omega)] at c
      obtain ⟨n, rfl⟩ : ∃ m, n = m + 1 := ⟨n - 1, by omega⟩
      refine wm (show nI 40 * nI j + nI r = nI (40 * j + r) by rw [pk_mul, nI_add]) (by omega) (by decide) (wsb ?_)
      rw [nI_add]
      refine wc (Y_sh56 hj n (r + 1) fu _ (fun i hi => ?_) (by omega) (by omega)) (fun a ha => ⟨ha.1, fun p hp => (ha.2.1 p hp).trans (up_off hp), fun k hk => (ha.2.2.1 k hk).trans (up_k (by omega)), ha.2.2.2⟩)
      by_cases z : i = r
      · rw [z, up_eq]
      · rw [up_k (by omega)]; exact h i (by omega)
    · rw [nI_ltI (by omega) (by omega)] at c
      obtain rfl : r = 40 := by omega
      exact ws ⟨rfl, fun _ _ => rfl, fun _ _ => rfl, h⟩
theorem J_sheet (F : RF s t) : w2 (C_sheet x1 x2 x3 s) (M_sheet x1 x2 x3 t) JF := by
  obtain ⟨⟨R, G⟩, I, M⟩ := F
  refine J.fin ?_ (W_C_sheet I) (fun _ h => h.1) (V_M_sheet M) (fun _ h => h.1)
  have H := G.h
  unfold C_sheet M_sheet
  refine w2P within_eq (inP (by decide) (by decide)) (fun _ => w2s ⟨rfl, R, G⟩) (fun c1 => ?_)
  obtain ⟨j, hj, rfl⟩ := in_j (by decide) c1
  refine w2P within_eq (inP (by decide) (by decide)) (fun _ => w2s ⟨rfl, R, G⟩) (fun c2 => ?_)
  obtain ⟨l, hl, rfl⟩ := in_j (by decide) c2
  refine w2i (fun _ => w2s ⟨rfl, R, G⟩) (fun c3 => w2i (fun _ => w2s ⟨rfl, R, G⟩) (fun c4 => ?_))
  obtain ⟨n, hn, rfl⟩ := in_j (n := 40) (by decide) ⟨c4, c3⟩
  refine w2l rfl (by omega) (by decide) (w2r rfl (by omega) (by decide) (w2sr (w2r rfl (by omega) (by decide) (w2sr ?_))))
  unfold S_renew
  obtain ⟨s', es, h1, h2⟩ := X_ren12 (b := 133 + 2 * j) (N := n) hn n 0 FU (up (up s (133 + 2 * j) 0 (nI l)) (133 + 2 * j) 1 (nI n)) (fun i hi => absurd hi (by omega)) (by omega) (by show n < 100000; omega)
  obtain ⟨v, ev, g1, g2, g3, g4⟩ := Y_sh56 (j := j) (by omega) 40 0 FU (up (up t 20 j (nI l)) 21 j (nI n)) (fun i hi => absurd hi (by omega)) (by omega) (by decide)
  refine w2sl ?_
  show w2 ((S_renew_12 (133 + 2 * j) (nI n) FU (nI 0) (up (up s (133 + 2 * j) 0 (nI l)) (133 + 2 * j) 1 (nI n))).bind fun s1 => some (nI 1, s1)) _ JQ
  rw [es]
  refine ⟨(nI 1, s'), v, rfl, ev, g1.symm, R, ?_⟩
  have oS : ∀ p, p ≠ 133 + 2 * j → p ≠ 133 + 2 * j + 1 → s' p = s p := fun p q1 q2 => by rw [h1 p q2, up_off q1, up_off q1]
  have oT : ∀ q, q ≠ 20 → q ≠ 21 → q ≠ 22 → v.2 q = t q := fun q q1 q2 q3 => by rw [g2 q q3, up_off q2, up_off q1]
  dsimp only
  refine ⟨?_, ?_, ?_, ?_, ?_, fun k hk => ?_, ?_, ?_⟩
  · rw [oT 10 (by decide) (by decide) (by decide)]; exact G.r
  · rw [pgE (oT 11 (by decide) (by decide) (by decide))]
    exact H.off (fun p q1 q2 => oS p (by omega) (by omega))
  · exact G.kp.k (oS 20 (by omega) (by omega)) (fun p _ _ => oS p (by omega) (by omega)) (oT 19 (by decide) (by decide) (by decide)) (fun k _ _ => by rw [oT 11 (by decide) (by decide) (by decide)])
  · exact G.tp.k (by rw [oS 27 (by omega) (by omega)]) (oS 28 (by omega) (by omega)) (by rw [oT 10 (by decide) (by decide) (by decide)]) (oT 13 (by decide) (by decide) (by decide))
  · exact G.fe.k (oS 23 (by omega) (by omega)) (oS 24 (by omega) (by omega)) (oS 25 (by omega) (by omega)) (oS 26 (by omega) (by omega)) (by rw [oT 10 (by decide) (by decide) (by decide)]) (oT 17 (by decide) (by decide) (by decide))
  · by_cases z : k = j
    · subst z
      refine ⟨Or.inr ⟨l, by omega, ?_, ?_⟩, n, hn, ?_, ?_, fun i hi => ?_⟩
      · rw [h1 _ (by omega), up_k (by decide), up_eq]
      · rw [g2 20 (by decide), up_p (by decide), up_eq]
      · rw [h1 _ (by omega), up_eq]
      · rw [g2 21 (by decide), up_eq]
      · rw [h2 i hi, g4 i (by omega)]
    · obtain ⟨z1, n', n1, n2, n3, n4⟩ := G.sh k hk
      refine ⟨?_, n', n1, ?_, ?_, fun i hi => ?_⟩
      · rw [oS _ (by omega) (by omega), g2 20 (by decide), up_p (by decide), up_k z]; exact z1
      · rw [oS _ (by omega) (by omega)]; exact n2
      · rw [g2 21 (by decide), up_k z, up_p (by decide)]; exact n3
      · rw [oS _ (by omega) (by omega), g3 _ (by omega), up_p (by decide), up_p (by decide)]; exact n4 i hi
  · rw [oS 10 (by omega) (by omega), oT 10 (by decide) (by decide) (by decide)]; exact G.tn
  · exact G.lt.k (oT 14 (by decide) (by decide) (by decide)) (oT 15 (by decide) (by decide) (by decide))
end HRS
