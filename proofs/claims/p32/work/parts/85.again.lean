/-! when all comes again; the least mark; the kind by which least is burnt -/
section AGAIN
variable {s t s0 : sg} {b R p : Nat} {g g' : Nat → Int32} {x x1 x2 x3 x4 : Int32}
theorem hoursV_s : ∀ (n : Nat) (g : Nat → Int32), hoursV R (n + 1) g = nextV R (hoursV R n g)
  | 0, g => rfl
  | n + 1, g => by
    show hoursV R (n + 1) (nextV R g) = _
    rw [hoursV_s n (nextV R g)]; rfl
theorem bits_eq : ∀ R : Nat, R < 7 → ∀ m : Nat, m < 2 ^ R → ∀ m' : Nat, m' < 2 ^ R → (∀ r : Nat, r < R → m' / 2 ^ r % 2 = m / 2 ^ r % 2) → m' = m := by decide +kernel
theorem X_like2 {c : Nat} (H : HR s b g' R) (K : HR s c g R) : ∀ (n r fu : Nat), r + n = R → n < fu → ((∀ i, r ≤ i → i < R → g' i = g i) → s b 1 = s c 1 → H_isLike_2 b c s fu (nI r) = some (nI 1)) ∧ (¬ ((∀ i, r ≤ i → i < R → g' i = g i) ∧ s b 1 = s c 1) → H_isLike_2 b c s fu (nI r) = some (nI 0))
  | n, r, 0, hr, hf => absurd hf (by omega)
  | n, r, fu + 1, hr, hf => by
    have h6 := H.r6
    rw [H_isLike_2, H.rm]
    by_cases cc : r < R
    · obtain ⟨n, rfl⟩ : ∃ k, n = k + 1 := ⟨n - 1, by omega⟩
      rw [if_pos ((nI_ltI (by omega) (by omega)).mpr cc), midx_nI (by omega) (by decide)]
      have e : ((some r).bind fun j1 => (some r).bind fun j2 => if s (b + 1) j1 = s (c + 1) j2 then H_isLike_2 b c s fu (nI r + nI 1) else some (nI 0)) = if g' r = g r then H_isLike_2 b c s fu (nI (r + 1)) else some (nI 0) := by
        rw [← H.w cc, ← K.w cc, nI_add]; rfl
      rw [e]
      obtain ⟨i1, i2⟩ := X_like2 H K n (r + 1) fu (by omega) (by omega)
      by_cases d : g' r = g r
      · rw [if_pos d]
        refine ⟨fun h k => i1 (fun i a1 a2 => h i (by omega) a2) k, fun h => i2 (fun z => h ⟨fun i a1 a2 => ?_, z.2⟩)⟩
        by_cases q : i = r
        · rw [q]; exact d
        · exact z.1 i (by omega) a2
      · rw [if_neg d]
        exact ⟨fun h _ => absurd (h r (Nat.le_refl _) cc) d, fun _ => rfl⟩
    · obtain rfl : n = 0 := by omega
      rw [if_neg (fun z => cc ((nI_ltI (by omega) (by omega)).mp z))]
      by_cases d : s b 1 = s c 1
      · rw [if_pos d]
        exact ⟨fun _ _ => rfl, fun h => absurd ⟨fun i a1 a2 => absurd a2 (by omega), d⟩ h⟩
      · rw [if_neg d]
        exact ⟨fun _ k => absurd k d, fun _ => rfl⟩
theorem on_iff {c : Nat} (H : HR s b g' R) (K : HR s c g R) : (s b 1 = s c 1) ↔ ∀ i, i < R → g' (30 + i) = g (30 + i) := by
  obtain ⟨m', a1, a2, a3⟩ := H.on
  obtain ⟨m, b1, b2, b3⟩ := K.on
  have h6 := H.r6
  have c1 := p64 h6 a1
  have c2 := p64 h6 b1
  constructor
  · intro h i hi
    rw [a2, b2, nI_eq (by omega) (by omega)] at h
    rw [a3 i hi, b3 i hi, h]
  · intro h
    have e : m' = m := bits_eq R (by omega) m b1 m' a1 (fun r hr => by
      have z := h r hr
      rw [a3 r hr, b3 r hr, nI_eq (by omega) (by omega)] at z
      exact z)
    rw [a2, b2, e]
theorem Y_38z {k10 : Int32 → sg → Option (Int32 × sg)} (e : t 10 1 = nI R) (hR : R ≤ 6) : ∀ (n r fu : Nat), r + n = R → n < fu → M_again_38 k10 x1 fu (nI 0) (nI r) t = k10 (x1 + nI 1) t
  | n, r, 0, hr, hf => absurd hf (by omega)
  | n, r, fu + 1, hr, hf => by
    rw [M_again_38, e]
    by_cases c : r < R
    · rw [if_pos ((nI_ltI (by omega) (by omega)).mpr c), if_pos (by decide), nI_add]
      exact Y_38z e hR (n - 1) (r + 1) fu (by omega) (by omega)
    · rw [if_neg (fun z => c ((nI_ltI (by omega) (by omega)).mp z)), if_pos (by decide)]
theorem Y_38 {k10 : Int32 → sg → Option (Int32 × sg)} (e : t 10 1 = nI R) (hR : R ≤ 6) : ∀ (n r fu : Nat), r + n = R → n < fu → ((∀ i, r ≤ i → i < R → pg t 208 i = pg t 0 i ∧ pg t 208 (30 + i) = pg t 0 (30 + i)) → M_again_38 k10 x1 fu (nI 1) (nI r) t = some (x1, t)) ∧ (¬ (∀ i, r ≤ i → i < R → pg t 208 i = pg t 0 i ∧ pg t 208 (30 + i) = pg t 0 (30 + i)) → M_again_38 k10 x1 fu (nI 1) (nI r) t = k10 (x1 + nI 1) t)
  | n, r, 0, hr, hf => absurd hf (by omega)
  | n, r, fu + 1, hr, hf => by
    rw [M_again_38, e]
    by_cases c : r < R
    · obtain ⟨n, rfl⟩ : ∃ k, n = k + 1 := ⟨n - 1, by omega⟩
      rw [if_pos ((nI_ltI (by omega) (by omega)).mpr c), if_neg (by decide), nI_add, nI_add, nI_add, nI_add, midx_nI (by omega) (by decide), midx_nI (by omega) (by decide), midx_nI (by omega) (by decide), midx_nI (by omega) (by decide)]
      have z0 : M_again_38 k10 x1 fu (nI 0) (nI (r + 1)) t = k10 (x1 + nI 1) t := Y_38z e hR n (r + 1) fu (by omega) (by omega)
      have ee : ((some (208 + r)).bind fun j1 => (some r).bind fun j2 => if t 11 j1 = t 11 j2 then (some (238 + r)).bind fun j3 => (some (30 + r)).bind fun j4 => if t 11 j3 = t 11 j4 then M_again_38 k10 x1 fu (nI 1) (nI (r + 1)) t else M_again_38 k10 x1 fu (nI 0) (nI (r + 1)) t else M_again_38 k10 x1 fu (nI 0) (nI (r + 1)) t) = if pg t 208 r = pg t 0 r then (if pg t 208 (30 + r) = pg t 0 (30 + r) then M_again_38 k10 x1 fu (nI 1) (nI (r + 1)) t else k10 (x1 + nI 1) t) else k10 (x1 + nI 1) t := by
        rw [z0, pg0, pg0]
        show (if t 11 (208 + r) = t 11 r then (if t 11 (238 + r) = t 11 (30 + r) then M_again_38 k10 x1 fu (nI 1) (nI (r + 1)) t else k10 (x1 + nI 1) t) else k10 (x1 + nI 1) t) = _
        have e2 : pg t 208 (30 + r) = t 11 (238 + r) := by unfold pg; rw [show 208 + (30 + r) = 238 + r by omega]
        rw [e2]; rfl
      rw [ee]
      obtain ⟨i1, i2⟩ := Y_38 (k10 := k10) e hR n (r + 1) fu (by omega) (by omega)
      by_cases d : pg t 208 r = pg t 0 r
      · rw [if_pos d]
        by_cases f : pg t 208 (30 + r) = pg t 0 (30 + r)
        · rw [if_pos f]
          refine ⟨fun h => i1 (fun i a1 a2 => h i (by omega) a2), fun h => i2 (fun z => h (fun i a1 a2 => ?_))⟩
          by_cases q : i = r
          · rw [q]; exact ⟨d, f⟩
          · exact z i (by omega) a2
        · rw [if_neg f]
          exact ⟨fun h => absurd (h r (Nat.le_refl _) c).2 f, fun _ => rfl⟩
      · rw [if_neg d]
        exact ⟨fun h => absurd (h r (Nat.le_refl _) c).1 d, fun _ => rfl⟩
    · rw [if_neg (fun z => c ((nI_ltI (by omega) (by omega)).mp z)), if_neg (by decide)]
      exact ⟨fun _ => rfl, fun h => absurd (fun i a1 a2 => absurd a2 (by omega)) h⟩
theorem Y_run (hR : R ≤ 6) {k : Nat} (hk : k < 7) : ∀ (m fu : Nat) (t : sg) (h : Nat), m ≤ 7 → t 10 1 = nI R → pg t 208 49 = nI h → h + m < 2 ^ 29 → ∃ t', M_again_10 (fu + m) (nI (8 * k + 8 - m)) t = M_again_10 fu (nI (8 * k + 8)) t' ∧ pg t' 208 = hoursV R m (pg t 208) ∧ offP 208 t t'
  | 0, fu, t, h, hm, e, e9, hh => ⟨t, rfl, rfl, offP.rf⟩
  | m + 1, fu, t, h, hm, e, e9, hh => by
    obtain ⟨t1, et, g1, o1⟩ := Y_goesOn (t := t) (p := 208) (by decide) hR e e9 (by omega)
    have e1 : t1 10 1 = nI R := (o1 10 1 (by omega) (by decide)).trans e
    obtain ⟨t2, a1, a2, a3⟩ := Y_run hR hk m fu t1 (h + 1) (by omega) e1 (by rw [g1]; exact nextV_49 hR e9) (by omega)
    refine ⟨t2, ?_, by rw [a2, g1]; rfl, o1.tr a3⟩
    rw [← a1, show fu + (m + 1) = (fu + m) + 1 by omega, M_again_10, if_neg (fun z => by have := (nI_ltI (by decide) (by omega)).mp z; omega), et]
    show (if nI (8 * k + 8 - (m + 1)) - nI (8 * k + 8 - (m + 1)) / nI 8 * nI 8 = 0 then M_again_38 (M_again_10 (fu + m)) (nI (8 * k + 8 - (m + 1))) FU (nI 1) (nI 0) t1 else M_again_38 (M_again_10 (fu + m)) (nI (8 * k + 8 - (m + 1))) FU (nI 0) (nI 0) t1) = _
    rw [pk_rem (by omega) (by decide) (by decide), if_neg (nI_ne0 (by omega) (by omega)), Y_38z e1 hR R 0 FU (by omega) (by show R < 100000; omega), nI_add, show 8 * k + 8 - (m + 1) + 1 = 8 * k + 8 - m by omega]
theorem K_again : ∀ (n k fu fu' : Nat) (s t : sg) (h : Nat), HR s 53 (pg t 208) R → HR s 11 (pg t 0) R → t 10 1 = nI R → pg t 208 49 = nI h → h + 8 * n < 2 ^ 28 → k + n = 7 → n < fu → 8 * n < fu' → w2 (C_again_8 fu (nI (8 * k + 8)) s) (M_again_10 fu' (nI (8 * k + 1)) t) (fun a b => a.1 = b.1)
  | n, k, 0, fu', s, t, h, H, K, e, e9, hh, hr, hf, hf' => absurd hf (by omega)
  | n, k, fu + 1, 0, s, t, h, H, K, e, e9, hh, hr, hf, hf' => absurd hf' (by omega)
  | n, k, fu + 1, fu' + 1, s, t, h, H, K, e, e9, hh, hr, hf, hf' => by
    have h6 := H.r6
    by_cases c7 : k < 7
    · obtain ⟨n, rfl⟩ : ∃ m, n = m + 1 := ⟨n - 1, by omega⟩
      obtain ⟨fu', rfl⟩ : ∃ m, fu' = m + 1 + 6 := ⟨fu' - 7, by omega⟩
      obtain ⟨t1, a1, a2, a3⟩ := Y_run h6 c7 7 (fu' + 1) t h (by omega) e e9 (by omega)
      have e1 : t1 10 1 = nI R := (a3 10 1 (by omega) (by decide)).trans e
      have e91 : pg t1 208 49 = nI (h + 7) := by rw [a2]; exact hoursV_49 h6 7 h _ e9
      obtain ⟨t2, et, g2, o2⟩ := Y_goesOn (t := t1) (p := 208) (by decide) h6 e1 e91 (by omega)
      have e2 : t2 10 1 = nI R := (o2 10 1 (by omega) (by decide)).trans e1
      have g8 : pg t2 208 = hoursV R 8 (pg t 208) := by rw [g2, a2, hoursV_s 7]
      have p0 : ∀ i, i < 52 → pg t2 0 i = pg t 0 i := fun i hi => by rw [pg0, pg0, o2 11 i (by omega) (by decide), a3 11 i (by omega) (by decide)]
      have eM : M_again_10 (fu' + 1 + 6 + 1) (nI (8 * k + 1)) t = M_again_38 (M_again_10 fu') (nI (8 * k + 8)) FU (nI 1) (nI 0) t2 := by
        have z : M_again_10 (fu' + 1 + 6 + 1) (nI (8 * k + 1)) t = M_again_10 (fu' + 1) (nI (8 * k + 8)) t1 := a1
        rw [z, M_again_10, if_neg (fun z => by have := (nI_ltI (by decide) (by omega)).mp z; omega), et]
        show (if nI (8 * k + 8) - nI (8 * k + 8) / nI 8 * nI 8 = 0 then M_again_38 (M_again_10 fu') (nI (8 * k + 8)) FU (nI 1) (nI 0) t2 else M_again_38 (M_again_10 fu') (nI (8 * k + 8)) FU (nI 0) (nI 0) t2) = _
        rw [pk_rem (by omega) (by decide) (by decide), show (8 * k + 8) % 8 = 0 by omega, if_pos (by decide)]
      rw [eM, C_again_8, if_neg (fun z => by have := (nI_ltI (by decide) (by omega)).mp z; omega)]
      refine w2bl (X_passHours (N := 8) (by decide) H e9 (by omega)) (fun u hu => ?_)
      have H' : HR u.2 53 (pg t2 208) R := by rw [g8]; exact hu.1
      have K' : HR u.2 11 (pg t2 0) R := HR.e (K.off (fun p q1 q2 => hu.2.1 p (by omega))) p0
      obtain ⟨i1, i2⟩ := X_like2 H' K' R 0 FU (by omega) (by show R < 100000; omega)
      obtain ⟨y1, y2⟩ := Y_38 (k10 := M_again_10 fu') (x1 := nI (8 * k + 8)) e2 h6 R 0 FU (by omega) (by show R < 100000; omega)
      have io := on_iff H' K'
      unfold H_isLike
      by_cases P : ∀ i, 0 ≤ i → i < R → pg t2 208 i = pg t2 0 i ∧ pg t2 208 (30 + i) = pg t2 0 (30 + i)
      · rw [y1 P, i1 (fun i b1 b2 => (P i b1 b2).1) (io.mpr (fun i hi => (P i (by omega) hi).2))]
        refine w2sl ?_
        rw [if_neg (by decide)]
        exact w2s rfl
      · rw [y2 P, i2 (fun z => P (fun i b1 b2 => ⟨z.1 i b1 b2, io.mp z.2 i b2⟩))]
        refine w2sl ?_
        rw [if_pos (by decide), nI_add, nI_add, show 8 * k + 8 + 8 = 8 * (k + 1) + 8 by omega, show 8 * k + 8 + 1 = 8 * (k + 1) + 1 by omega]
        exact K_again n (k + 1) fu fu' u.2 t2 (h + 8) H' K' e2 (by rw [g8]; exact hoursV_49 h6 8 h _ e9) (by omega) (by omega) (by omega) (by omega)
    · rw [C_again_8, M_again_10, if_pos ((nI_ltI (by decide) (by omega)).mpr (by omega)), if_pos ((nI_ltI (by decide) (by omega)).mpr (by omega))]
      exact w2s rfl
theorem J_again (F : RF s t) : w2 (C_again s) (M_again t) (fun a b => a.1 = b.1) := by
  obtain ⟨⟨R, G⟩, I, M⟩ := F
  have H := G.h
  have h6 := H.r6
  obtain ⟨R', h, hh, Hs⟩ := I.1
  have e9 := G.h9 Hs
  unfold C_again M_again
  rw [cpNow_eq, copies_eq (by decide) (by decide) (by omega)]
  refine w2sl (w2sr (K_again 7 0 FU FU _ _ h G.cp53 ?_ ((cpM_ne (Or.inl (by decide))).trans G.r) e9 (by omega) (by decide) (by decide) (by decide)))
  exact HR.e (H.off (fun p q1 q2 => cpH_off p (by omega))) (fun i hi => by rw [pg0, pg0, cpM_ne (by omega)])
theorem K_stays {N j : Nat} (hN : N < 1000) (hj : j < R) : ∀ (n r fu fu' : Nat) (s t : sg) (h : Nat), HR s 53 (pg t 208) R → t 10 1 = nI R → pg t 208 49 = nI h → h + n < 2 ^ 29 → r + n = N → n < fu → n < fu' → w2 (H_staysWarm_3 53 (nI j) (nI N) x3 fu (nI r) s) (M_keepsWarm_11 (nI j) (nI N) x3 fu' (nI r) t) (fun a b => a.1 = b.1 ∧ offH 53 s a.2 ∧ offS t b.2)
  | n, r, 0, fu', s, t, h, H, e, e9, hh, hr, hf, hf' => absurd hf (by omega)
  | n, r, fu + 1, 0, s, t, h, H, e, e9, hh, hr, hf, hf' => absurd hf' (by omega)
  | n, r, fu + 1, fu' + 1, s, t, h, H, e, e9, hh, hr, hf, hf' => by
    have h6 := H.r6
    rw [H_staysWarm_3, M_keepsWarm_11, nI_add, nI_add]
    refine w2i (fun c => ?_) (fun _ => w2s ⟨rfl, offH.rf, offS.rf⟩)
    have hc := (nI_ltI (by omega) (by omega)).mp c
    obtain ⟨n, rfl⟩ : ∃ m, n = m + 1 := ⟨n - 1, by omega⟩
    refine w2bl (X_passHour H e9 (by omega)) (fun s1 h1 => w2br (Y_goesOn (by decide) h6 e e9 (by omega)) (fun t1 g1 => ?_))
    have H1 : HR s1 53 (pg t1 208) R := by rw [g1.1]; exact h1.1
    refine w2l rfl (by omega) (by decide) (w2r rfl (by omega) (by decide) ?_)
    have ew : s1 (53 + 1) j = t1 11 (208 + j) := H1.w hj
    rw [ew]
    refine w2i (fun _ => w2s ⟨rfl, h1.2, offP.s g1.2⟩) (fun _ => ?_)
    exact (K_stays hN hj n (r + 1) fu fu' s1 t1 (h + 1) H1 ((g1.2 10 1 (by omega) (by decide)).trans e) (by rw [g1.1]; exact nextV_49 h6 e9) (by omega) (by omega) (by omega) (by omega)).c (fun a c q => ⟨q.1, h1.2.tr q.2.1, (offP.s g1.2).tr q.2.2⟩)
theorem K_need {N j h : Nat} {g : Nat → Int32} (hN : N < 1000) (hj : j < R) (H0 : HR s0 11 g R) (e9 : g 49 = nI h) (hh : h ≤ 999) : ∀ (n r fu fu' : Nat) (s t : sg), offT s0 s → t 10 1 = nI R → (∀ i, i < 52 → i ≠ 24 + j → pg t 260 i = g i) → r + n = 100 → n < fu → n < fu' → w2 (C_need_50 (nI j) (nI N) x3 fu (nI r) s) (M_need_56 (nI j) (nI N) x3 fu' (nI r) t) (fun a b => a.1 = b.1)
  | n, r, 0, fu', s, t, oS, e, hp, hr, hf, hf' => absurd hf (by omega)
  | n, r, fu + 1, 0, s, t, oS, e, hp, hr, hf, hf' => absurd hf' (by omega)
  | n, r, fu + 1, fu' + 1, s, t, oS, e, hp, hr, hf, hf' => by
    have h6 := H0.r6
    rw [C_need_50, M_need_56, nI_add, nI_add]
    refine w2i (fun _ => w2s rfl) (fun c => ?_)
    have hc : ¬ 99 < r := fun z => c ((nI_ltI (by decide) (by omega)).mpr z)
    obtain ⟨n, rfl⟩ : ∃ m, n = m + 1 := ⟨n - 1, by omega⟩
    rw [cpNow_eq]
    refine w2sl (w2l rfl (by omega) (by decide) (w2sl (w2r rfl (by omega) (by decide) (w2sr ?_))))
    have H11 : HR s 11 g R := H0.off (fun p q1 q2 => oS p (by omega))
    have H1 : HR (up (cpH s 53 11) (53 + 5) j (nI r)) 53 (gu g (24 + j) (nI r)) R := (H11.copy (b := 53)).set5 hj (by omega)
    unfold M_keepsWarm
    rw [copies_eq (by decide) (by decide) (by omega)]
    have ep : ∀ i, i < 52 → pg (cpM (up t 11 (284 + j) (nI r)) 260 208 52) 208 i = gu g (24 + j) (nI r) i := fun i hi => by
      rw [cpM_at hi]
      by_cases z : i = 24 + j
      · rw [z, gu_eq]
        show (up t 11 (284 + j) (nI r)) 11 (260 + (24 + j)) = _
        rw [show 260 + (24 + j) = 284 + j by omega, up_eq]
      · rw [gu_ne z, ← hp i hi z]
        show (up t 11 (284 + j) (nI r)) 11 (260 + i) = t 11 (260 + i)
        rw [up_k (by omega)]
    have H2 : HR (up (cpH s 53 11) 58 j (nI r)) 53 (pg (cpM (up t 11 (284 + j) (nI r)) 260 208 52) 208) R := HR.e H1 ep
    unfold H_staysWarm
    refine w2b (K_stays (x3 := x3) hN hj N 0 FU FU _ _ h H2 ?_ ?_ (by omega) (by omega) (by show N < 100000; omega) (by show N < 100000; omega)) (fun a d q => ?_)
    · rw [cpM_ne (Or.inl (by decide)), up_p (by decide)]; exact e
    · rw [ep 49 (by decide), gu_ne (by omega)]; exact e9
    · obtain ⟨q1, q2, q3⟩ := q
      rw [q1]
      refine w2i (fun _ => ?_) (fun _ => w2s rfl)
      refine K_need hN hj H0 e9 hh n (r + 1) fu fu' a.2 d.2 (fun p hp' => ?_) ?_ (fun i hi hne => ?_) (by omega) (by omega) (by omega)
      · rw [q2 p (by omega), up_off (by omega), cpH_off p (by omega)]; exact oS p hp'
      · rw [q3 10 1 (by omega) (by decide) (by omega), cpM_ne (Or.inl (by decide)), up_p (by decide)]; exact e
      · rw [← hp i hi hne]
        show d.2 11 (260 + i) = t 11 (260 + i)
        rw [q3 11 _ (by omega) (by decide) (by omega), cpM_ne (by omega), up_k (by omega)]
theorem J_need (F : RF s t) : w2 (C_need x1 x2 x3 s) (M_need x1 x2 x3 t) (fun a b => a.1 = b.1) := by
  obtain ⟨⟨R, G⟩, I, M⟩ := F
  have H := G.h
  have h6 := H.r6
  obtain ⟨R', h, hh, Hs⟩ := I.1
  unfold C_need M_need
  refine w2P (hasRoom_P H.rm) (isRoom_P G.r h6) (fun _ => w2s rfl) (fun c0 => ?_)
  obtain ⟨j, hj, rfl⟩ := room_j h6 c0
  refine w2P within_eq (inP (by decide) (by decide)) (fun _ => w2s rfl) (fun c1 => ?_)
  obtain ⟨N, hN1, hN, rfl⟩ := in_nI (by decide) c1 (by decide)
  refine w2P within_eq (inP (by decide) (by decide)) (fun _ => w2s rfl) (fun c2 => ?_)
  refine w2P (hasTongue_eq H hj) (hasT_eq (by omega)) (fun _ => w2s rfl) (fun c4 => ?_)
  rw [copies_eq (by decide) (by decide) (by omega)]
  refine w2sr (K_need (s0 := s) (by omega) hj H (G.hh Hs) hh 100 0 FU FU s _ (fun _ _ => rfl) ((cpM_ne (Or.inl (by decide))).trans G.r) (fun i hi _ => cpM_at hi) (by decide) (by decide) (by decide))
theorem K_kind {N j h : Nat} {g : Nat → Int32} (hN : N < 1000) (hj : j < R) (H0 : HR s0 11 g R) (e9 : g 49 = nI h) (hh : h ≤ 999) (ht : 0 < g (18 + j)) : ∀ (n r fu fu' : Nat) (s t : sg) (y4 y5 z4 z5 : Int32), offT s0 s → t 10 1 = nI R → t 11 50 = g 50 → (∀ i, i < 52 → i ≠ 18 + j → pg t 260 i = g i) → ((r = 0 ∧ y4 = -4 ∧ y5 = nI 10000 ∧ z4 = nI 1000000 ∧ z5 = nI 0) ∨ (0 < r ∧ ¬ y4 = -4 ∧ z4 = y5 ∧ z5 = y4)) → r + n = 4 → n < fu → n < fu' → w2 (C_kind_58 (nI j) (nI N) x3 fu y4 y5 (nI r) s) (M_kind_61 (nI j) (nI N) x3 fu' z4 z5 (nI r) t) (fun a b => a.1 = b.1)
  | n, r, 0, fu', s, t, y4, y5, z4, z5, oS, e, e50, hp, hi, hr, hf, hf' => absurd hf (by omega)
  | n, r, fu + 1, 0, s, t, y4, y5, z4, z5, oS, e, e50, hp, hi, hr, hf, hf' => absurd hf' (by omega)
  | n, r, fu + 1, fu' + 1, s, t, y4, y5, z4, z5, oS, e, e50, hp, hi, hr, hf, hf' => by
    have h6 := H0.r6
    rw [C_kind_58, M_kind_61, nI_add, nI_add]
    by_cases c : r < 4
    · rw [if_neg (fun z => by have := (nI_ltI (by decide) (by omega)).mp z; omega), if_pos ((nI_ltI (by omega) (by decide)).mpr c), cpNow_eq]
      obtain ⟨n, rfl⟩ : ∃ m, n = m + 1 := ⟨n - 1, by omega⟩
      refine w2sl (w2l rfl (by omega) (by decide) (w2sl (w2r rfl (by omega) (by decide) (w2sr ?_))))
      have H11 : HR s 11 g R := H0.off (fun p q1 q2 => oS p (by omega))
      have Hc : HR (cpH s 53 11) 53 g R := H11.copy
      have H1 : HR (up (cpH s 53 11) (53 + 4) j (nI r)) 53 (gu g (18 + j) (nI r + nI 1)) R := Hc.set4 hj (by omega) ((Hc.to j hj).2.2 ht)
      rw [nI_add] at H1
      have ep : ∀ i, i < 52 → pgc (up t 11 (278 + j) (nI (r + 1))) 260 i = gu g (18 + j) (nI (r + 1)) i := fun i hi => by
        rw [pgc_e hi]
        by_cases z : i = 18 + j
        · rw [z, gu_eq]
          show (up t 11 (278 + j) (nI (r + 1))) 11 (260 + (18 + j)) = _
          rw [show 260 + (18 + j) = 278 + j by omega, up_eq]
        · rw [gu_ne z, ← hp i hi z]
          show (up t 11 (278 + j) (nI (r + 1))) 11 (260 + i) = t 11 (260 + i)
          rw [up_k (by omega)]
      have H2 : HR (up (cpH s 53 11) 57 j (nI r)) 53 (pgc (up t 11 (278 + j) (nI (r + 1))) 260) R := HR.e H1 ep
      have e9' : pgc (up t 11 (278 + j) (nI (r + 1))) 260 49 = nI h := by rw [ep 49 (by decide), gu_ne (by omega)]; exact e9
      have e50' : pgc (up t 11 (278 + j) (nI (r + 1))) 260 50 = g 50 := by rw [ep 50 (by decide), gu_ne (by omega)]
      obtain ⟨v, ev, g1, g2, _, _, oV⟩ := Y_hoursGo (t := up t 11 (278 + j) (nI (r + 1))) (N := N) (a := 260) (h := h) hN h6 (by rw [up_p (by decide)]; exact e) (by omega) (by rw [← pgc_e (by decide)]; exact e9') (by omega)
      obtain ⟨u, eu, k1, k2, k3⟩ := X_passHours hN H2 e9' (by omega)
      rw [eu, ev]
      refine w2sl (w2sr ?_)
      have euv : u.1 = v.1 := by rw [k3, g2, e50', up_k (by omega), e50]
      rw [← euv]
      have lt : r = 0 → u.1 < nI 10000 ∧ u.1 < nI 1000000 := fun _ => by
        obtain ⟨_, c1, hc1, d1⟩ := k1.bu
        obtain ⟨_, c2, hc2, d2⟩ := H0.bu
        rw [k3, e50', d1, d2]
        rw [Int32.lt_iff_toInt_lt, Int32.lt_iff_toInt_lt, pk_sub_toInt (by omega) (by omega), nI_toInt (by decide), nI_toInt (by decide)]
        omega
      have next : ∀ y4' y5' z4' z5' : Int32, ¬ y4' = -4 → z4' = y5' → z5' = y4' → w2 (C_kind_58 (nI j) (nI N) x3 fu y4' y5' (nI (r + 1)) u.2) (M_kind_61 (nI j) (nI N) x3 fu' z4' z5' (nI (r + 1)) v.2) (fun a b => a.1 = b.1) := fun y4' y5' z4' z5' q1 q2 q3 => by
        refine K_kind hN hj H0 e9 hh ht n (r + 1) fu fu' u.2 v.2 y4' y5' z4' z5' (fun p hp' => ?_) ?_ ?_ (fun i hi hne => ?_) (Or.inr ⟨by omega, q1, q2, q3⟩) (by omega) (by omega) (by omega)
        · rw [k2 p (by omega), up_off (by omega), cpH_off p (by omega)]; exact oS p hp'
        · rw [oV 10 1 (by omega) (by decide) (by omega), up_p (by decide)]; exact e
        · rw [oV 11 50 (by omega) (by decide) (by omega), up_k (by omega)]; exact e50
        · rw [← hp i hi hne]
          show v.2 11 (260 + i) = t 11 (260 + i)
          rw [oV 11 _ (by omega) (by decide) (by omega), up_k (by omega)]
      have nr : ¬ nI r = -4 := fun z => absurd (nI_pos (n := r) (by omega)) (by rw [z]; decide)
      rcases hi with ⟨r0, a1, a2, a3, a4⟩ | ⟨rp, a1, a2, a3⟩
      · obtain ⟨l1, l2⟩ := lt r0
        rw [a2, a3, if_pos l1, if_pos l2]
        unfold M_kind_105
        rw [if_pos l2, nI_add]
        exact next _ _ _ _ nr rfl rfl
      · rw [a2, a3]
        by_cases d : u.1 < y5
        · rw [if_pos d, if_pos d]
          unfold M_kind_105
          rw [if_pos d, nI_add]
          exact next _ _ _ _ nr rfl rfl
        · rw [if_neg d, if_neg d]
          unfold M_kind_105
          rw [if_neg d, nI_add]
          exact next _ _ _ _ a1 rfl rfl
    · rw [if_pos ((nI_ltI (by decide) (by omega)).mpr (by omega)), if_neg (fun z => c ((nI_ltI (by omega) (by decide)).mp z))]
      rcases hi with ⟨r0, _⟩ | ⟨rp, a1, a2, a3⟩
      · omega
      · rw [a2, a3]
        unfold C_chosen
        rw [if_neg a1]
        by_cases d : x3 = 0
        · rw [if_pos d, if_pos d]; exact w2s rfl
        · rw [if_neg d, if_neg d]; exact w2s rfl
theorem J_kind (F : RF s t) : w2 (C_kind x1 x2 x3 s) (M_kind x1 x2 x3 t) (fun a b => a.1 = b.1) := by
  obtain ⟨⟨R, G⟩, I, M⟩ := F
  have H := G.h
  have h6 := H.r6
  obtain ⟨R', h, hh, Hs⟩ := I.1
  unfold C_kind M_kind
  refine w2P (hasRoom_P H.rm) (isRoom_P G.r h6) (fun _ => w2s rfl) (fun c0 => ?_)
  obtain ⟨j, hj, rfl⟩ := room_j h6 c0
  refine w2P within_eq (inP (by decide) (by decide)) (fun _ => w2s rfl) (fun c1 => ?_)
  obtain ⟨N, hN, rfl⟩ := in_j (by decide) c1
  refine w2P within_eq (inP (by decide) (by decide)) (fun _ => w2s rfl) (fun c2 => ?_)
  refine w2P (hasTongue_eq H hj) (hasT_eq (by omega)) (fun _ => w2s rfl) (fun c4 => ?_)
  rw [copies_eq (by decide) (by decide) (by omega)]
  refine w2sr (K_kind (s0 := s) (by omega) hj H (G.hh Hs) hh c4 4 0 FU FU s _ _ _ _ _ (fun _ _ => rfl) ((cpM_ne (Or.inl (by decide))).trans G.r) ?_ (fun i hi _ => cpM_at hi) (Or.inl ⟨rfl, rfl, rfl, rfl, rfl⟩) (by decide) (by decide) (by decide))
  rw [cpM_ne (by omega), pg0]
end AGAIN
