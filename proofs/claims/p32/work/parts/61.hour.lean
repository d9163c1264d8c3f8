/-! the class's hour, number by number -/
theorem clamp_eq (v : Int32) : (if nI 0 < (if v < nI 99 then v else nI 99) then (if v < nI 99 then v else nI 99) else nI 0) = clV v := by
  unfold clV
  have e0 : (nI 0).toInt = 0 := rfl
  have e9 : (nI 99).toInt = 99 := rfl
  have z0 : (0 : Int32).toInt = 0 := rfl
  by_cases c : v < nI 99
  · rw [if_pos c]
    rw [Int32.lt_iff_toInt_lt, e9] at c
    by_cases d : nI 0 < v
    · rw [if_pos d]
      rw [Int32.lt_iff_toInt_lt, e0] at d
      rw [if_neg (by rw [Int32.lt_iff_toInt_lt, z0]; omega), if_neg (by rw [Int32.lt_iff_toInt_lt, e9]; omega)]
    · rw [if_neg d]
      rw [Int32.lt_iff_toInt_lt, e0] at d
      by_cases f : v < 0
      · rw [if_pos f]
      · rw [if_neg f, if_neg (by rw [Int32.lt_iff_toInt_lt, e9]; omega)]
        rw [Int32.lt_iff_toInt_lt, z0] at f
        exact Int32.toInt_inj.mp (by rw [e0]; omega)
  · rw [if_neg c, if_pos (by decide)]
    rw [Int32.lt_iff_toInt_lt, e9] at c
    rw [if_neg (by rw [Int32.lt_iff_toInt_lt, z0]; omega)]
    by_cases d : nI 99 < v
    · rw [if_pos d]
    · rw [if_neg d]
      rw [Int32.lt_iff_toInt_lt, e9] at d
      exact Int32.toInt_inj.mp (by rw [e9]; omega)
section HOURV
variable {s s' s2 : sg} {b R r : Nat} {g a m : Nat → Int32} {x x1 x2 x3 y c c' : Int32}
theorem mid_hi {i : Nat} (h : r ≤ i) (h2 : i ≠ 50) : midV g R x1 x2 r c i = g i := by
  unfold midV
  rw [if_neg (by omega), if_neg h2]
theorem mid_lo {i : Nat} (h : i < r) : midV g R x1 x2 r c i = warmV g R x1 x2 i := by
  unfold midV
  rw [if_pos h]
theorem mid_50 (h : r ≤ 6) : midV g R x1 x2 r c 50 = c := by
  unfold midV
  rw [if_neg (by omega), if_pos rfl]
theorem mid_0 : midV g R x1 x2 0 c = gu g 50 c := by
  funext i
  unfold midV gu
  rw [if_neg (by omega)]
theorem HR.pass (H : HR s b (midV g R x1 x2 r c) R) (hr : r < R) (e : ∀ p k, ¬ (p = b ∧ k = 3) → ¬ (p = b + 1 ∧ k = r) → s2 p k = s p k) (hc : CN (s2 b 3) c') (hw : s2 (b + 1) r = warmV g R x1 x2 r) : HR s2 b (midV g R x1 x2 (r + 1) c') R := by
  have h6 := H.r6
  have hp : ∀ i, 2 ≤ i → s2 (b + i) = s (b + i) := fun i hi => by funext k; exact e _ _ (fun w => by omega) (fun w => by omega)
  have hm : ∀ i, 6 ≤ i → i ≠ 50 → midV g R x1 x2 (r + 1) c' i = midV g R x1 x2 r c i := fun i h1 h2 => by rw [mid_hi (by omega) h2, mid_hi (by omega) h2]
  refine ⟨h6, (e b 0 (by omega) (by omega)).trans H.rm, ?_, (e b 2 (by omega) (by omega)).trans (H.hr.trans (hm 49 (by decide) (by decide)).symm), ?_, ?_, fun q hq => ?_, ?_, ?_, ?_, ?_, ?_⟩
  · rw [e b 1 (by omega) (by omega)]; exact H.on.k (fun q hq => hm _ (by omega) (by omega))
  · rw [mid_50 (by omega)]; exact hc
  · rw [e b 4 (by omega) (by omega), hm 51 (by decide) (by decide)]; exact H.sw
  · rw [Nat.zero_add]
    by_cases z : q = r
    · subst z
      rw [hw, mid_lo (by omega)]
    · rw [e (b + 1) q (by omega) (by omega), H.w hq]
      by_cases z2 : q < r
      · rw [mid_lo z2, mid_lo (by omega)]
      · rw [mid_hi (by omega) (by omega), mid_hi (by omega) (by omega)]
  · rw [hp 2 (by decide)]; exact H.ls.k (fun q hq => hm _ (by omega) (by omega))
  · rw [hp 3 (by decide)]; exact H.br.k (fun q hq => hm _ (by omega) (by omega))
  · rw [hp 4 (by decide), hp 5 (by decide)]; exact H.to.k (fun q hq => hm _ (by omega) (by omega)) (fun q hq => hm _ (by omega) (by omega))
  · rw [hp 6 (by decide)]; exact H.wa.k (fun q hq => hm _ (by omega) (by omega))
  · rw [hp 7 (by decide)]; exact H.ou.k (fun q hq => hm _ (by omega) (by omega))
theorem HR.tick (H : HR s b g R) : HR (up s b 2 (s b 2 + nI 1)) b (gu g 49 (g 49 + nI 1)) R := by
  have h6 := H.r6
  have hp : ∀ i, 1 ≤ i → up s b 2 (s b 2 + nI 1) (b + i) = s (b + i) := fun i hi => up_off (by omega)
  refine ⟨h6, (up_k (by decide)).trans H.rm, ?_, ?_, ?_, ?_, ?_, ?_, ?_, ?_, ?_, ?_⟩
  · rw [up_k (by decide)]; exact H.on.k (fun q hq => gu_ne (by omega))
  · rw [up_eq, gu_eq, H.hr]
  · rw [up_k (by decide), gu_ne (by decide)]; exact H.bu
  · rw [up_k (by decide), gu_ne (by decide)]; exact H.sw
  · rw [hp 1 (by decide)]; exact H.wm.k (fun q hq => gu_ne (by omega))
  · rw [hp 2 (by decide)]; exact H.ls.k (fun q hq => gu_ne (by omega))
  · rw [hp 3 (by decide)]; exact H.br.k (fun q hq => gu_ne (by omega))
  · rw [hp 4 (by decide), hp 5 (by decide)]; exact H.to.k (fun q hq => gu_ne (by omega)) (fun q hq => gu_ne (by omega))
  · rw [hp 6 (by decide)]; exact H.wa.k (fun q hq => gu_ne (by omega))
  · rw [hp 7 (by decide)]; exact H.ou.k (fun q hq => gu_ne (by omega))
theorem hasWall_eq (H : HR s b g R) (hr : r < 6) : H_hasWall b (nI r) s = some (if r + 1 < R then nI 1 else nI 0) := by
  have h6 := H.r6
  unfold H_hasWall
  rw [if_neg (nI_pos (by omega)), H.rm]
  by_cases c : r + 1 < R
  · rw [if_pos ((nI_m1 (by omega) (by omega)).mpr c), if_pos c]
  · rw [if_neg (fun w => c ((nI_m1 (by omega) (by omega)).mp w)), if_neg c]
theorem burn_eq (hr : r < 6) (hc : CN (s b 3) c) : H_burn b (nI r) s = some (up s b 3 (incV c) (b + 3) r, up s b 3 (incV c)) := by
  unfold H_burn
  rw [(inc_eq hc).1, midx_nI hr (by decide)]
  rfl
theorem X_hr : ∀ (n r fu : Nat) (s : sg) (c x3 : Int32), HR s b (midV g R x1 x2 r c) R → r + n = R → n < fu → x3 = innW g R r → wp (H_passHourBy_9 b x1 x2 fu x3 (nI r) s) (fun s' => HR s' b (gu (midV g R x1 x2 R (brV g x2 n r c)) 49 (g 49 + nI 1)) R ∧ offH b s s')
  | n, r, 0, s, c, x3, H, hr, hf, hx => absurd hf (by omega)
  | n, r, fu + 1, s, c, x3, H, hr, hf, hx => by
    have h6 := H.r6
    rw [H_passHourBy_9, H.rm]
    have e1 : nI r + nI 1 = nI (r + 1) := nI_add r 1
    refine wi (fun cc => ?_) (fun cc => ?_)
    · rw [nI_ltI (by omega) (by omega)] at cc
      obtain ⟨n, rfl⟩ : ∃ m, n = m + 1 := ⟨n - 1, by omega⟩
      have gw : s (b + 1) r = g r := by rw [H.w cc, mid_hi (by omega) (by omega)]
      have gl : s (b + 2) r = g (6 + r) := by rw [H.ls r cc, mid_hi (by omega) (by omega)]
      have gb : s (b + 3) r = g (12 + r) := by rw [H.br r cc, mid_hi (by omega) (by omega)]
      have gn : midV g R x1 x2 r c (30 + r) = g (30 + r) := mid_hi (by omega) (by omega)
      have gc : CN (s b 3) c := by have h := H.bu; rwa [mid_50 (by omega)] at h
      have go : ∀ (y6 y0 c' : Int32) (s' : sg), y6 = lossV g x1 r → y0 = bnV g x2 r → c' = (if g (30 + r) = nI 1 ∧ x2 = 0 then incV c else c) → (∀ p k, ¬ (p = b ∧ k = 3) → s' p k = s p k) → CN (s' b 3) c' → wp (H_passHourBy_106 (H_passHourBy_9 b x1 x2 fu) b x1 x2 x3 (nI r) (outW g R r) y6 y0 s') (fun s' => HR s' b (gu (midV g R x1 x2 R (brV g x2 (n + 1) r c)) 49 (g 49 + nI 1)) R ∧ offH b s s') := fun y6 y0 c' s' h6' h0 hc' o hc => by
        unfold H_passHourBy_106
        refine wm rfl (by omega) (by decide) (wm rfl (by omega) (by decide) (wsb ?_))
        rw [clamp_eq, e1]
        have hw : s' (b + 1) r = g r := (o _ _ (by omega)).trans gw
        have hv : clV ((((s' (b + 1) r + x3) - outW g R r) - y6) + y0) = warmV g R x1 x2 r := by rw [hw, hx, h6', h0]; rfl
        rw [hv]
        have H' : HR (up s' (b + 1) r (warmV g R x1 x2 r)) b (midV g R x1 x2 (r + 1) c') R :=
          H.pass cc (fun p k q1 q2 => by rw [up, if_neg q2]; exact o p k q1) (by rw [up_p (by omega)]; exact hc) up_eq
        refine wc (X_hr n (r + 1) fu _ c' (outW g R r) H' (by omega) (by omega) rfl) (fun a ha => ⟨?_, fun p hp => ?_⟩)
        · rw [brV, ← hc']; exact ha.1
        · rw [ha.2 p hp, up_off (by omega)]
          funext k
          exact o p k (by omega)
      have t59 : wp (H_passHourBy_59 (H_passHourBy_9 b x1 x2 fu) b x1 x2 x3 (nI r) (outW g R r) s) (fun s' => HR s' b (gu (midV g R x1 x2 R (brV g x2 (n + 1) r c)) 49 (g 49 + nI 1)) R ∧ offH b s s') := by
        unfold H_passHourBy_59 H_passHourBy_105
        refine wm rfl (by omega) (by decide) (wm rfl (by omega) (by decide) ?_)
        have hl : ((s (b + 2) r) * ((s (b + 1) r) - x1)) / (nI 10) = lossV g x1 r := by rw [gl, gw]; rfl
        rw [hl]
        refine wbP (isOn_eq H cc) (fun q => ?_) (fun q => ?_)
        · rw [gn] at q
          exact go _ _ c s rfl (by unfold bnV; rw [if_neg (fun w => q w.1)]) (by rw [if_neg (fun w => q w.1)]) (fun _ _ _ => rfl) gc
        · rw [gn] at q
          refine wi (fun z => ?_) (fun z => ?_)
          · rw [burn_eq (by omega) gc]
            refine wsb ?_
            refine go _ _ (incV c) _ rfl ?_ (by rw [if_pos ⟨q, z⟩]) (fun p k hp => if_neg hp) ?_
            · rw [up_p (by omega), gb]
              unfold bnV
              rw [if_pos ⟨q, z⟩]
            · dsimp only; rw [up_eq]; exact (inc_eq gc).2
          · exact go _ _ c s rfl (by unfold bnV; rw [if_neg (fun w => z w.2)]) (by rw [if_neg (fun w => z w.2)]) (fun _ _ _ => rfl) gc
      refine wbP (hasWall_eq H (by omega)) (fun q => ?_) (fun q => ?_)
      · have ho : nI 0 = outW g R r := by unfold outW; rw [if_neg q]
        rw [ho]; exact t59
      · refine wm rfl (by omega) (by decide) (wm rfl (by omega) (by decide) (wm e1 (by omega) (by decide) ?_))
        have ho : ((s (b + 6) r) * ((s (b + 1) r) - (s (b + 1) (r + 1)))) / (nI 10) = outW g R r := by
          unfold outW
          rw [if_pos q, H.wa r q, gw, H.w q, mid_hi (by omega) (by omega), mid_hi (by omega) (by omega)]
        rw [ho]; exact t59
    · rw [nI_ltI (by omega) (by omega)] at cc
      obtain rfl : n = 0 := by omega
      obtain rfl : r = R := by omega
      refine wsb (ws ⟨?_, offH.up ⟨by omega, by omega⟩⟩)
      have h := H.tick
      rw [mid_hi (show r ≤ 49 by omega) (by decide)] at h
      exact h
theorem X_passHourBy (H : HR s b g R) : wp (H_passHourBy b x1 x2 s) (fun s' => HR s' b (hourV R x1 x2 g) R ∧ offH b s s') := by
  unfold H_passHourBy
  refine wb (X_switchAll H) (fun s1 h => ?_)
  have H1 : HR s1 b (midV (swN g R 0) R x1 x2 0 (swN g R 0 50)) R := by rw [mid_0, gu_self]; exact h.1
  exact wc (X_hr R 0 FU s1 _ (nI 0) H1 (by omega) (by have := H.r6; show R < 100000; omega) rfl) (fun a ha => ⟨ha.1, h.2.off.tr ha.2⟩)
theorem sky_i {h : Nat} (hh : h < 2 ^ 30) : (nI h).toInt.toNat % 8 = h % 8 := by rw [nI_toInt (by omega)]; rfl
theorem skyNow_eq {h : Nat} (H : HR s b g R) (e : g 49 = nI h) (hh : h < 2 ^ 30) : H_skyNow b s = some (skyV g) := by
  unfold H_skyNow skyV
  rw [H.hr, e, rem8 hh, midx_nI (by omega) (by decide), sky_i hh]
  show some (s (b + 7) (h % 8)) = _
  rw [H.ou (h % 8) (by omega)]
theorem X_passHour {h : Nat} (H : HR s b g R) (e : g 49 = nI h) (hh : h < 2 ^ 30) : wp (H_passHour b s) (fun s' => HR s' b (nextV R g) R ∧ offH b s s') := by
  unfold H_passHour
  rw [skyNow_eq H e hh]
  exact wsb (wb (X_passHourBy H) (fun a ha => ws ha))
theorem swV_at {i : Nat} (h : i < 30 ∨ 36 ≤ i) (h2 : i ≠ 51) (hr : r < 6) : swV g r i = g i := by
  unfold swV
  by_cases c : 0 < g (18 + r)
  · rw [if_pos c]
    by_cases d : newV g r = g (30 + r)
    · rw [if_pos d]
    · rw [if_neg d, gu_ne (by omega), gu_ne h2]
  · rw [if_neg c]
theorem swN_at {i : Nat} (h : i < 30 ∨ 36 ≤ i) (h2 : i ≠ 51) : ∀ (n r : Nat) (g : Nat → Int32), r + n ≤ 6 → swN g n r i = g i
  | 0, r, g, hr => rfl
  | n + 1, r, g, hr => by rw [swN, swN_at h h2 n (r + 1) _ (by omega), swV_at h h2 (by omega)]
theorem hourV_49 {h : Nat} (hR : R ≤ 6) (e : g 49 = nI h) : hourV R x1 x2 g 49 = nI (h + 1) := by
  unfold hourV passV
  rw [gu_eq, swN_at (by omega) (by decide) R 0 g (by omega), e, nI_add]
theorem nextV_49 {h : Nat} (hR : R ≤ 6) (e : g 49 = nI h) : nextV R g 49 = nI (h + 1) := hourV_49 hR e
end HOURV
