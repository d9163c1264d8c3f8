/-! walls, tongues, skies that are tried, by both -/
section TRIAL
variable {s t s0 : sg} {b R p N h : Nat} {g g' : Nat → Int32} {x x1 x2 x3 x4 : Int32}
theorem K_trial {S T : sg} (hN : N < 1000) (H : HR S 53 g' R) (e : T 10 1 = nI R) (ep : ∀ i, i < 52 → pg T 260 i = g' i) (e9 : g' 49 = nI h) (hh : h ≤ 999) (e50 : T 11 50 = g' 50) : w2 (H_passHours 53 (nI N) S) (M_hoursGo (nI 260) (nI N) T) (fun u v => u.1 = v.1 ∧ offH 53 S u.2 ∧ offS T v.2) := by
  have H2 : HR S 53 (pgc T 260) R := HR.e H (fun i hi => by rw [pgc_e hi]; exact ep i hi)
  have e9' : pgc T 260 49 = nI h := by rw [pgc_e (by decide), ep 49 (by decide)]; exact e9
  have e50' : pgc T 260 50 = g' 50 := by rw [pgc_e (by decide), ep 50 (by decide)]
  refine w2.mk (X_passHours hN H2 e9' (by omega)) (Y_hoursGo hN H.r6 e (by omega) (by rw [ep 49 (by decide)]; exact e9) (by omega)) (fun u v hu hv => ⟨?_, hu.2.1, hv.2.2.2.2⟩)
  rw [hu.2.2, hv.2.1, e50', e50]
theorem pg260 {k : Nat} {v : Int32} : pg (up t 11 (260 + k) v) 260 = gu (pg t 260) k v := pg_up
/-- what the reference's trials leave: the pages below 156 -/
theorem base_S {T : sg} (o : offS t T) : ∀ i, i < 52 → pg T 0 i = pg t 0 i := fun i hi => by rw [pg0, pg0]; exact o 11 i (by omega) (by decide) (by omega)
theorem C_ch {y3 y4 : Int32} : C_chosen y3 y4 x2 s = some (if y3 = -4 then -4 else if x2 = 0 then y3 else y4) := by
  unfold C_chosen
  by_cases c : y3 = -4
  · rw [if_pos c, if_pos c]
  · rw [if_neg c, if_neg c]
    by_cases d : x2 = 0
    · rw [if_pos d, if_pos d]
    · rw [if_neg d, if_neg d]
theorem K_seal (hN : N < 1000) (H0 : HR s0 11 g R) (e9 : g 49 = nI h) (hh : h ≤ 999) : ∀ (n r fu fu' : Nat) (s t : sg) (y3 y4 : Int32), offT s0 s → t 10 1 = nI R → (∀ i, i < 52 → pg t 0 i = g i) → r + n = R → n < fu → n < fu' → w2 (C_seal_37 (nI N) x2 fu y3 y4 (nI r) s) (M_seal_38 (nI N) x2 fu' y4 y3 (nI r) t) (fun a b => a.1 = b.1)
  | n, r, 0, fu', s, t, y3, y4, oS, e, hp, hr, hf, hf' => absurd hf (by omega)
  | n, r, fu + 1, 0, s, t, y3, y4, oS, e, hp, hr, hf, hf' => absurd hf' (by omega)
  | n, r, fu + 1, fu' + 1, s, t, y3, y4, oS, e, hp, hr, hf, hf' => by
    have h6 := H0.r6
    have H11 : HR s 11 g R := H0.off (fun p q1 q2 => oS p (by omega))
    rw [C_seal_37, M_seal_38, H11.rm, e, nI_add]
    refine w2i (fun c => ?_) (fun _ => ?_)
    · have hc := (nI_m1 (by omega) (by omega)).mp c
      obtain ⟨n, rfl⟩ : ∃ m, n = m + 1 := ⟨n - 1, by omega⟩
      rw [cpNow_eq, copies_eq (by decide) (by decide) (by omega), nI_add]
      refine w2sl (w2l rfl (by omega) (by decide) (w2sl (w2sr (w2r rfl (by omega) (by decide) (w2sr ?_)))))
      have H1 : HR (up (cpH s 53 11) (53 + 6) r (nI 0)) 53 (gu g (36 + r) (-2)) R := (H11.copy (b := 53)).set6 hc (by rw [gu_eq]; decide) (fun i hi => gu_ne hi)
      have ep : ∀ i, i < 52 → pg (up (cpM t 0 260 52) 11 (296 + r) (-2)) 260 i = gu g (36 + r) (-2) i := fun i hi => by
        rw [show 296 + r = 260 + (36 + r) by omega, pg260]
        unfold gu
        by_cases z : i = 36 + r
        · rw [if_pos z, if_pos z]
        · rw [if_neg z, if_neg z, cpM_at hi]; exact hp i hi
      refine w2b (K_trial (h := h) hN H1 ?_ ep ?_ hh ?_) (fun u v q => ?_)
      · rw [up_p (by decide), cpM_ne (Or.inl (by decide))]; exact e
      · rw [gu_ne (by omega)]; exact e9
      · rw [up_k (by omega), cpM_ne (by omega), gu_ne (by omega), ← pg0 (t := t)]; exact hp 50 (by decide)
      · obtain ⟨q1, q2, q3⟩ := q
        rw [← q1]
        have next : ∀ y3' y4' : Int32, w2 (C_seal_37 (nI N) x2 fu y3' y4' (nI (r + 1)) u.2) (M_seal_38 (nI N) x2 fu' y4' y3' (nI (r + 1)) v.2) (fun a b => a.1 = b.1) := fun y3' y4' => by
          refine K_seal hN H0 e9 hh n (r + 1) fu fu' u.2 v.2 y3' y4' (fun p hp' => ?_) ?_ (fun i hi => ?_) (by omega) (by omega) (by omega)
          · rw [q2 p (by omega), up_off (by omega), cpH_off p (by omega)]; exact oS p hp'
          · rw [q3 10 1 (by omega) (by decide) (by omega), up_p (by decide), cpM_ne (Or.inl (by decide))]; exact e
          · rw [← hp i hi, pg0, pg0, q3 11 i (by omega) (by decide) (by omega), up_k (by omega), cpM_ne (by omega)]
        by_cases d : u.1 < y4
        · rw [if_pos d, if_pos d]
          unfold M_seal_93
          rw [if_pos d, nI_add]; exact next _ _
        · rw [if_neg d, if_neg d]
          unfold M_seal_93
          rw [if_neg d, nI_add]; exact next _ _
    · rw [C_ch]
      refine w2sl ?_
      by_cases c : y3 = -4
      · rw [if_pos c, if_pos c]; exact w2s c.symm
      · rw [if_neg c, if_neg c]
        by_cases d : x2 = 0
        · rw [if_pos d, if_pos d]; exact w2s rfl
        · rw [if_neg d, if_neg d]; exact w2s rfl
theorem J_seal (F : RF s t) : w2 (C_seal x1 x2 s) (M_seal x1 x2 t) (fun a b => a.1 = b.1) := by
  obtain ⟨⟨R, G⟩, I, M⟩ := F
  have H := G.h
  have h6 := H.r6
  obtain ⟨R', h, hh, Hs⟩ := I.1
  unfold C_seal M_seal
  refine w2P within_eq (inP (by decide) (by decide)) (fun _ => w2s rfl) (fun c1 => ?_)
  obtain ⟨N, hN, rfl⟩ := in_j (by decide) c1
  refine w2P within_eq (inP (by decide) (by decide)) (fun _ => w2s rfl) (fun c2 => ?_)
  rw [cpNow_eq]
  refine w2sl (w2bl (X_passHours (by omega) G.cp53 (G.h9 Hs) (by omega)) (fun u hu => w2br (Y_hoursGo (N := N) (a := 0) (by omega) h6 G.r (by omega) (G.hh Hs) (by omega)) (fun v hv => ?_)))
  have euv : u.1 = v.1 := by rw [hu.2.2, hv.2.1, pgc_e (by decide), pg0]
  rw [← euv]
  refine K_seal (s0 := s) (by omega) H (G.hh Hs) hh R 0 FU FU u.2 v.2 _ _ (fun p hp' => ?_) ?_ (base_S hv.2.2.2.2) (by omega) (by show R < 100000; omega) (by show R < 100000; omega)
  · rw [hu.2.1 p (by omega), cpH_off p (by omega)]
  · rw [hv.2.2.2.2 10 1 (by omega) (by decide) (by omega)]; exact G.r
/-! which tongue can be spared -/
theorem mnV_le : ∀ (n : Nat) (g : Nat → Int32) (a : Int32), a < x2 → mnV R n g a < x2
  | 0, g, a, h => h
  | n + 1, g, a, h => by
    rw [mnV]
    refine mnV_le n _ _ ?_
    by_cases c : coldM R (nextV R g) < a
    · rw [if_pos c]
      rw [Int32.lt_iff_toInt_lt] at c h ⊢
      omega
    · rw [if_neg c]; exact h
theorem X_burnt {N : Nat} (hN : N < 1000) (h0 : ¬ R = 0) : ∀ (n r fu : Nat) (s : sg) (g : Nat → Int32) (h : Nat) (a : Int32), HR s 53 g R → g 49 = nI h → h + n < 2 ^ 29 → ¬ a < x2 → r + n = N → n < fu → wp (H_burntAllWarm_8 53 (nI N) x2 x3 fu (nI r) s) (fun v => (mnV R n g a < x2 → v.1 = -4) ∧ (¬ mnV R n g a < x2 → v.1 = hoursV R n g 50 - x3) ∧ offH 53 s v.2)
  | n, r, 0, s, g, h, a, H, e, hh, ha, hr, hf => absurd hf (by omega)
  | n, r, fu + 1, s, g, h, a, H, e, hh, ha, hr, hf => by
    rw [H_burntAllWarm_8]
    refine wi (fun c => ?_) (fun c => ?_)
    · have hc := (nI_ltI (by omega) (by omega)).mp c
      obtain ⟨n, rfl⟩ : ∃ m, n = m + 1 := ⟨n - 1, by omega⟩
      refine wb (X_passHour H e (by omega)) (fun s1 h1 => ?_)
      rw [X_coldest h1.1, nI_add]
      refine wsb ?_
      have ec : coldM R (nextV R g) = clN (nextV R g) R 0 (nI 99) := by unfold coldM; rw [if_neg h0]
      rw [← ec]
      refine wi (fun d => ws ⟨fun _ => rfl, fun z => absurd ?_ z, h1.2⟩) (fun d => ?_)
      · rw [mnV]
        refine mnV_le n _ _ ?_
        rw [if_pos (by rw [Int32.lt_iff_toInt_lt] at ha d ⊢; omega)]; exact d
      · rw [mnV]
        have ha' : ¬ (if coldM R (nextV R g) < a then coldM R (nextV R g) else a) < x2 := by
          by_cases q : coldM R (nextV R g) < a
          · rw [if_pos q]; exact d
          · rw [if_neg q]; exact ha
        exact wc (X_burnt hN h0 n (r + 1) fu s1 _ (h + 1) _ h1.1 (nextV_49 H.r6 e) (by omega) ha' (by omega) (by omega)) (fun v hv => ⟨hv.1, hv.2.1, h1.2.tr hv.2.2⟩)
    · have hc : ¬ r < N := fun z => c ((nI_ltI (by omega) (by omega)).mpr z)
      obtain rfl : n = 0 := by omega
      refine ws ⟨fun z => absurd z ha, fun _ => ?_, offH.rf⟩
      show s 53 3 - x3 = g 50 - x3
      rw [H.bu.1]
theorem incV_n {c : Nat} (hc : c ≤ 9999) : ∃ c', c ≤ c' ∧ c' ≤ 9999 ∧ incV (nI c) = nI c' := by
  unfold incV
  by_cases h : c < 9999
  · rw [if_pos ((nI_ltI (by omega) (by decide)).mpr h), nI_add]
    exact ⟨c + 1, by omega, by omega, rfl⟩
  · rw [if_neg (fun z => h ((nI_ltI (by omega) (by decide)).mp z))]
    exact ⟨c, by omega, hc, rfl⟩
theorem brV_n : ∀ (n r c : Nat), c ≤ 9999 → ∃ c', c ≤ c' ∧ c' ≤ 9999 ∧ brV g x2 n r (nI c) = nI c'
  | 0, r, c, hc => ⟨c, Nat.le_refl _, hc, rfl⟩
  | n + 1, r, c, hc => by
    rw [brV]
    by_cases d : g (30 + r) = nI 1 ∧ x2 = 0
    · rw [if_pos d]
      obtain ⟨c1, a1, a2, a3⟩ := incV_n hc
      obtain ⟨c2, b1, b2, b3⟩ := brV_n n (r + 1) c1 a2
      rw [a3]
      exact ⟨c2, by omega, b2, b3⟩
    · rw [if_neg d]; exact brV_n n (r + 1) c hc
theorem hourV_50 {c : Nat} (hR : R ≤ 6) (hc : c ≤ 9999) (e : g 50 = nI c) : ∃ c', c ≤ c' ∧ c' ≤ 9999 ∧ hourV R x1 x2 g 50 = nI c' := by
  have z : hourV R x1 x2 g 50 = brV (swN g R 0) x2 R 0 (nI c) := by
    unfold hourV passV
    rw [gu_ne (by decide), mid_50 hR, swN_at (by omega) (by decide) R 0 g (by omega), e]
  rw [z]
  exact brV_n R 0 c hc
theorem hoursV_50 (hR : R ≤ 6) : ∀ (n c : Nat) (g : Nat → Int32), c ≤ 9999 → g 50 = nI c → ∃ c', c ≤ c' ∧ c' ≤ 9999 ∧ hoursV R n g 50 = nI c'
  | 0, c, g, hc, e => ⟨c, Nat.le_refl _, hc, e⟩
  | n + 1, c, g, hc, e => by
    obtain ⟨c1, a1, a2, a3⟩ := hourV_50 (x1 := skyV g) (x2 := nI 0) hR hc e
    obtain ⟨c2, b1, b2, b3⟩ := hoursV_50 hR n c1 (nextV R g) a2 a3
    exact ⟨c2, by omega, b2, b3⟩
theorem K_spare (hN : N < 1000) (H0 : HR s0 11 g R) (e9 : g 49 = nI h) (hh : h ≤ 999) (hx : ¬ nI 99 < x2) : ∀ (n r fu fu' : Nat) (s t : sg) (y4 y5 z4 : Int32), offT s0 s → t 10 1 = nI R → (∀ i, i < 52 → pg t 0 i = g i) → ((y4 = -4 ∧ y5 = nI 10000 ∧ z4 = nI 1000000) ∨ (¬ y4 = -4 ∧ z4 = y5)) → r + n = R → n < fu → n < fu' → w2 (C_spare_43 (nI N) x2 x3 fu y4 y5 (nI r) s) (M_spare_47 (nI N) x2 x3 fu' z4 y4 (nI r) t) (fun a b => a.1 = b.1)
  | n, r, 0, fu', s, t, y4, y5, z4, oS, e, hp, hi, hr, hf, hf' => absurd hf (by omega)
  | n, r, fu + 1, 0, s, t, y4, y5, z4, oS, e, hp, hi, hr, hf, hf' => absurd hf' (by omega)
  | n, r, fu + 1, fu' + 1, s, t, y4, y5, z4, oS, e, hp, hi, hr, hf, hf' => by
    have h6 := H0.r6
    have H11 : HR s 11 g R := H0.off (fun p q1 q2 => oS p (by omega))
    have Ht : HR s 11 (pg t 0) R := HR.e H11 hp
    rw [C_spare_43, M_spare_47, H11.rm, e, nI_add]
    by_cases c : r < R
    · rw [if_pos ((nI_ltI (by omega) (by omega)).mpr c), if_pos ((nI_ltI (by omega) (by omega)).mpr c)]
      obtain ⟨n, rfl⟩ : ∃ m, n = m + 1 := ⟨n - 1, by omega⟩
      refine w2P (hasTongue_eq Ht c) (hasT_eq (by omega)) (fun _ => K_spare hN H0 e9 hh hx n (r + 1) fu fu' s t y4 y5 z4 oS e hp hi (by omega) (by omega) (by omega)) (fun _ => ?_)
      rw [cpNow_eq, copies_eq (by decide) (by decide) (by omega)]
      refine w2sl (w2sr ?_)
      rw [take_eq (by omega), strips_eq (by decide) (by omega)]
      refine w2sl (w2sr ?_)
      have H1 := (H11.copy (b := 53)).take c
      generalize hS : up (up (cpH s 53 11) (53 + 4) r (-1)) 53 1 ((cpH s 53 11) 53 1 &&& ((nI 1 <<< (nI r &&& 31)) ^^^ (-1))) = S at *
      generalize hT : up (up (up (cpM t 0 260 52) 11 (260 + (18 + r)) (nI 0)) 11 (260 + (24 + r)) (nI 0)) 11 (260 + (30 + r)) (nI 0) = T at *
      have ep : ∀ i, i < 52 → pg T 260 i = gu (gu (gu g (18 + r) (nI 0)) (24 + r) (nI 0)) (30 + r) (nI 0) i := fun i hi => by
        rw [← hT, pg260, pg260, pg260]
        have e0 : pg (cpM t 0 260 52) 260 i = g i := by rw [cpM_at hi]; exact hp i hi
        unfold gu
        rw [e0]
      have eT : T 10 1 = nI R := by rw [← hT, up_p (by decide), up_p (by decide), up_p (by decide), cpM_ne (Or.inl (by decide))]; exact e
      have oT : ∀ i, i < 52 → T 11 i = t 11 i := fun i hi => by rw [← hT, up_k (by omega), up_k (by omega), up_k (by omega), cpM_ne (by omega)]
      have H2 : HR S 53 (pgc T 260) R := HR.e H1 (fun i hi => by rw [pgc_e hi]; exact ep i hi)
      have e9' : pgc T 260 49 = nI h := by rw [pgc_e (by decide), ep 49 (by decide), gu_ne (by omega), gu_ne (by omega), gu_ne (by omega)]; exact e9
      have e50' : pgc T 260 50 = g 50 := by rw [pgc_e (by decide), ep 50 (by decide), gu_ne (by omega), gu_ne (by omega), gu_ne (by omega)]
      have t50 : T 11 50 = g 50 := by rw [oT 50 (by decide), ← pg0 (t := t)]; exact hp 50 (by decide)
      obtain ⟨v, ev, g1, g2, g3, g4, oV⟩ := Y_hoursGo (t := T) (N := N) (a := 260) (h := h) hN h6 eT (by omega) (by rw [← pgc_e (by decide)]; exact e9') (by omega)
      obtain ⟨u, eu, k1, k2, k3⟩ := X_burnt (x2 := x2) (x3 := pgc T 260 50) hN (by omega) N 0 FU S (pgc T 260) h (nI 99) H2 e9' (by omega) hx (by omega) (by show N < 100000; omega)
      have eb : H_burntAllWarm 53 (nI N) x2 S = some u := by
        unfold H_burntAllWarm
        rw [H2.bu.1]; exact eu
      rw [eb, ev]
      refine w2sl (w2sr ?_)
      rw [g4]
      have next : ∀ y4' y5' z4' : Int32, ((y4' = -4 ∧ y5' = nI 10000 ∧ z4' = nI 1000000) ∨ (¬ y4' = -4 ∧ z4' = y5')) → w2 (C_spare_43 (nI N) x2 x3 fu y4' y5' (nI (r + 1)) u.2) (M_spare_47 (nI N) x2 x3 fu' z4' y4' (nI (r + 1)) v.2) (fun a b => a.1 = b.1) := fun y4' y5' z4' hi' => by
        refine K_spare hN H0 e9 hh hx n (r + 1) fu fu' u.2 v.2 y4' y5' z4' (fun p hp' => ?_) ?_ (fun i hi => ?_) hi' (by omega) (by omega) (by omega)
        · rw [k3 p (by omega), ← hS, up_off (by omega), up_off (by omega), cpH_off p (by omega)]; exact oS p hp'
        · rw [oV 10 1 (by omega) (by decide) (by omega)]; exact eT
        · rw [← hp i hi, pg0, pg0, oV 11 i (by omega) (by decide) (by omega)]; exact oT i hi
      by_cases cm : mnV R N (pgc T 260) (nI 99) < x2
      · rw [if_pos cm, k1 cm, if_pos rfl]
        unfold M_spare_111 M_spare_112 M_spare_126
        rw [if_pos (by decide), if_pos (by decide), nI_add]
        exact next _ _ _ hi
      · have eu1 := k2 cm
        obtain ⟨_, c0, hc0, d0⟩ := H2.bu
        obtain ⟨c1, a1, a2, a3⟩ := hoursV_50 h6 N c0 (pgc T 260) hc0 d0
        have ev1 : v.1 = u.1 := by rw [g2, eu1, e50', t50]
        have uN : u.1 = nI (c1 - c0) := by rw [eu1, a3, d0, pk_sub a1]
        have n4 : ¬ u.1 = -4 := fun z => absurd (nI_pos (n := c1 - c0) (by omega)) (by rw [← uN, z]; decide)
        rw [if_neg cm, if_neg n4, ev1]
        have nr : ¬ nI r = -4 := fun z => absurd (nI_pos (n := r) (by omega)) (by rw [z]; decide)
        have lt : (u.1 < y5) ↔ (u.1 < z4) := by
          rcases hi with ⟨_, b2, b3⟩ | ⟨_, b2⟩
          · rw [b2, b3, uN, nI_ltI (by omega) (by decide), nI_ltI (by omega) (by decide)]
            omega
          · rw [b2]
        by_cases d : u.1 < y5
        · rw [if_pos d, if_pos (lt.mp d)]
          unfold M_spare_112 M_spare_126
          rw [if_neg (by decide), if_neg (by decide), nI_add]
          exact next _ _ _ (Or.inr ⟨nr, rfl⟩)
        · rw [if_neg d, if_neg (fun z => d (lt.mpr z))]
          unfold M_spare_111 M_spare_112 M_spare_126
          rw [if_pos (by decide), if_pos (by decide), nI_add]
          exact next _ _ _ hi
    · rw [if_neg (fun z => c ((nI_ltI (by omega) (by omega)).mp z)), if_neg (fun z => c ((nI_ltI (by omega) (by omega)).mp z)), C_ch]
      refine w2sl ?_
      rcases hi with ⟨b1, b2, b3⟩ | ⟨b1, b2⟩
      · rw [if_pos b1, if_pos b1]; exact w2s b1.symm
      · rw [if_neg b1, if_neg b1, b2]
        by_cases d : x3 = 0
        · rw [if_pos d, if_pos d]; exact w2s rfl
        · rw [if_neg d, if_neg d]; exact w2s rfl
theorem J_spare (F : RF s t) : w2 (C_spare x1 x2 x3 s) (M_spare x1 x2 x3 t) (fun a b => a.1 = b.1) := by
  obtain ⟨⟨R, G⟩, I, M⟩ := F
  have H := G.h
  have h6 := H.r6
  obtain ⟨R', h, hh, Hs⟩ := I.1
  unfold C_spare M_spare
  refine w2P within_eq (inP (by decide) (by decide)) (fun _ => w2s rfl) (fun c1 => ?_)
  obtain ⟨N, hN, rfl⟩ := in_j (by decide) c1
  refine w2P within_eq (inP (by decide) (by decide)) (fun _ => w2s rfl) (fun c2 => ?_)
  refine w2P within_eq (inP (by decide) (by decide)) (fun _ => w2s rfl) (fun c3 => ?_)
  exact K_spare (s0 := s) (by omega) H (G.hh Hs) hh c2.2 R 0 FU FU s t _ _ _ (fun _ _ => rfl) G.r (fun _ _ => rfl) (Or.inl ⟨rfl, rfl, rfl⟩) (by omega) (by show R < 100000; omega) (by show R < 100000; omega)
/-! skies by a seed -/
theorem rnd_eq (z : Int32) : ((z.toUInt32 >>> ((nI 16).toUInt32 &&& Int32.toUInt32 31)).toInt32) &&& (nI 32767) = (z >>> ((nI 16) &&& 31)) &&& (nI 32767) := by
  rw [pk_and _ 15 (by decide), pk_and _ 15 (by decide), pk_ushr z (nI 16) 16 (by decide)]
  have h := pk_shr z (nI 16 &&& 31) 16 (by decide)
  have hx := z.toBitVec.isLt
  have hy := (z >>> (nI 16 &&& 31)).toBitVec.isLt
  have e1 : z.toInt = z.toBitVec.toInt := rfl
  have e2 : (z >>> (nI 16 &&& 31)).toInt = (z >>> (nI 16 &&& 31)).toBitVec.toInt := rfl
  rw [e1, e2, BitVec.toInt_eq_toNat_cond, BitVec.toInt_eq_toNat_cond, Int.shiftRight_eq_div_pow] at h
  congr 1
  split at h <;> split at h <;> omega
theorem K_drift (hN : N < 1000) : ∀ (n r fu fu' : Nat) (s t : sg) (y : Int32), HR s 53 (pg t 208) R → t 10 1 = nI R → s 11 3 = t 11 50 → r + n = N → n < fu → n < fu' → w2 (C_drift_46 (nI N) x3 fu y (nI r) s) (M_drift_48 (nI N) x3 fu' y (nI r) t) (fun a b => a.1 = b.1)
  | n, r, 0, fu', s, t, y, H, e, e50, hr, hf, hf' => absurd hf (by omega)
  | n, r, fu + 1, 0, s, t, y, H, e, e50, hr, hf, hf' => absurd hf' (by omega)
  | n, r, fu + 1, fu' + 1, s, t, y, H, e, e50, hr, hf, hf' => by
    have h6 := H.r6
    rw [C_drift_46, M_drift_48, nI_add, rnd_eq]
    refine w2i (fun c => ?_) (fun _ => ?_)
    · have hc := (nI_ltI (by omega) (by omega)).mp c
      refine w2bl (X_passHourBy H) (fun s1 h1 => w2br (Y_hourOn (by decide) h6 e) (fun t1 g1 => ?_))
      refine K_drift hN (n - 1) (r + 1) fu fu' s1 t1 _ (by rw [g1.1]; exact h1.1) ((g1.2 10 1 (by omega) (by decide)).trans e) ?_ (by omega) (by omega) (by omega)
      rw [h1.2 11 (by omega), g1.2 11 50 (by omega) (by decide)]; exact e50
    · refine w2i (fun _ => ?_) (fun _ => ?_)
      · refine w2r rfl (by decide) (by decide) (w2r rfl (by decide) (by decide) (w2s ?_))
        show s 53 3 - s 11 3 = t 11 (208 + 50) - t 11 50
        have z1 : s 53 3 = t 11 (208 + 50) := H.bu.1
        rw [z1, e50]
      · rw [warm_eq H, Y_warmthOn e h6 (by decide)]
        exact w2s rfl
theorem J_drift (F : RF s t) : w2 (C_drift x1 x2 x3 s) (M_drift x1 x2 x3 t) (fun a b => a.1 = b.1) := by
  obtain ⟨⟨R, G⟩, I, M⟩ := F
  have H := G.h
  have h6 := H.r6
  unfold C_drift M_drift
  refine w2P within_eq (inP (by decide) (by decide)) (fun _ => w2s rfl) (fun c1 => ?_)
  obtain ⟨N, _, hN, rfl⟩ := in_nI (by decide) c1 (by decide)
  refine w2P within_eq (inP (by decide) (by decide)) (fun _ => w2s rfl) (fun c2 => ?_)
  rw [H.rm, G.r]
  refine w2i (fun _ => w2s rfl) (fun _ => ?_)
  rw [cpNow_eq, copies_eq (by decide) (by decide) (by omega)]
  refine w2sl (w2sr (K_drift (by omega) N 0 FU FU _ _ _ G.cp53 ((cpM_ne (Or.inl (by decide))).trans G.r) ?_ (by omega) (by show N < 100000; omega) (by show N < 100000; omega)))
  rw [congrFun (cpH_off 11 (by omega)) 3, H.bu.1, pg0, cpM_ne (by omega)]
end TRIAL
