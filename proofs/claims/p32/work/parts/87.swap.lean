/-! which two rooms should exchange tongues, by both -/
def swp (g : Nat → Int32) (i j : Nat) : Nat → Int32 := gu (gu (gu (gu (gu (gu g (18 + i) (g (18 + j))) (18 + j) (g (18 + i))) (24 + i) (g (24 + j))) (24 + j) (g (24 + i))) (30 + i) (if 0 < g (18 + j) then g (30 + i) else nI 0)) (30 + j) (if 0 < g (18 + i) then g (30 + j) else nI 0)
section SWAP
variable {s t s0 S : sg} {b R p N h : Nat} {g g' : Nat → Int32} {x x1 x2 x3 x4 : Int32}
theorem HR.m (H : HR s b g R) (h1 : ∀ k, k < 52 → ¬ (24 ≤ k ∧ k < 30) → g' k = g k) (h2 : ∀ r, r < R → (0 < g (18 + r) → g' (24 + r) = g (24 + r)) ∧ ∃ c : Nat, c ≤ 99 ∧ g' (24 + r) = nI c) : HR s b g' R := by
  have h6 := H.r6
  refine ⟨h6, H.rm, H.on.k (fun q hq => h1 _ (by omega) (by omega)), by rw [h1 49 (by decide) (by decide)]; exact H.hr, by rw [h1 50 (by decide) (by decide)]; exact H.bu, by rw [h1 51 (by decide) (by decide)]; exact H.sw, H.wm.k (fun q hq => h1 _ (by omega) (by omega)), H.ls.k (fun q hq => h1 _ (by omega) (by omega)), H.br.k (fun q hq => h1 _ (by omega) (by omega)), fun r hr => ?_, H.wa.k (fun q hq => h1 _ (by omega) (by omega)), H.ou.k (fun q hq => h1 _ (by omega) (by omega))⟩
  obtain ⟨z1, z2, z3⟩ := H.to r hr
  rw [h1 (18 + r) (by omega) (by omega)]
  exact ⟨z1, (h2 r hr).2, fun w => (z3 w).trans ((h2 r hr).1 w).symm⟩
/-- a room without a tongue is not switched on -/
theorem HR.drop {r : Nat} (H : HR S b g R) (hr : r < R) (hn : ¬ 0 < g (18 + r)) : HR (up (up S (b + 4) r (-1)) b 1 (S b 1 &&& ((nI 1 <<< (nI r &&& 31)) ^^^ (-1)))) b (gu g (30 + r) (nI 0)) R := by
  have h6 := H.r6
  obtain ⟨⟨k, k1, k2, k3⟩, z2, z3⟩ := H.to r hr
  have e18 : g (18 + r) = nI 0 := by
    have h0 : k = 0 := by
      rw [k2] at hn
      refine Nat.eq_zero_of_not_pos (fun z => hn ?_)
      exact (nI_ltI (a := 0) (by decide) (by omega)).mpr z
    rw [k2, h0]
  refine (H.take hr).m (fun q hq hm => ?_) (fun q hq => ⟨fun w => ?_, ?_⟩)
  · by_cases c : q = 30 + r
    · rw [c, gu_eq, gu_eq]
    · rw [gu_ne c, gu_ne c, gu_ne (by omega)]
      by_cases d : q = 18 + r
      · rw [d, gu_eq, e18]
      · rw [gu_ne d]
  · by_cases c : q = r
    · subst c
      rw [gu_ne (by omega), gu_ne (by omega), gu_eq] at w
      exact absurd w (by decide)
    · rw [gu_ne (by omega), gu_ne (by omega), gu_ne (by omega), gu_ne (by omega)]
  · rw [gu_ne (by omega)]
    exact (H.to q hq).2.1
theorem HR.swapT {i j : Nat} (H : HR S b g R) (hi : i < R) (hj : j < R) (hij : i ≠ j) : HR (up (up (up (up S (b + 4) j (S (b + 4) i)) (b + 4) i (S (b + 4) j)) (b + 5) j (S (b + 5) i)) (b + 5) i (S (b + 5) j)) b (gu (gu (gu (gu g (18 + i) (g (18 + j))) (18 + j) (g (18 + i))) (24 + i) (g (24 + j))) (24 + j) (g (24 + i))) R := by
  have h6 := H.r6
  have hb : (up (up (up (up S (b + 4) j (S (b + 4) i)) (b + 4) i (S (b + 4) j)) (b + 5) j (S (b + 5) i)) (b + 5) i (S (b + 5) j)) b = S b := by rw [up_off (by omega), up_off (by omega), up_off (by omega), up_off (by omega)]
  have hp : ∀ q, q ≠ 4 → q ≠ 5 → (up (up (up (up S (b + 4) j (S (b + 4) i)) (b + 4) i (S (b + 4) j)) (b + 5) j (S (b + 5) i)) (b + 5) i (S (b + 5) j)) (b + q) = S (b + q) := fun q h1 h2 => by rw [up_off (by omega), up_off (by omega), up_off (by omega), up_off (by omega)]
  have hne : ∀ k, k ≠ 18 + i → k ≠ 18 + j → k ≠ 24 + i → k ≠ 24 + j → (gu (gu (gu (gu g (18 + i) (g (18 + j))) (18 + j) (g (18 + i))) (24 + i) (g (24 + j))) (24 + j) (g (24 + i))) k = g k := fun k h1 h2 h3 h4 => by rw [gu_ne h4, gu_ne h3, gu_ne h2, gu_ne h1]
  refine ⟨h6, by rw [hb]; exact H.rm, by rw [hb]; exact H.on.k (fun q hq => hne _ (by omega) (by omega) (by omega) (by omega)), by rw [hb, hne 49 (by omega) (by omega) (by omega) (by omega)]; exact H.hr, by rw [hb, hne 50 (by omega) (by omega) (by omega) (by omega)]; exact H.bu, by rw [hb, hne 51 (by omega) (by omega) (by omega) (by omega)]; exact H.sw, ?_, ?_, ?_, fun r hr => ?_, ?_, ?_⟩
  · rw [hp 1 (by decide) (by decide)]; exact H.wm.k (fun q hq => hne _ (by omega) (by omega) (by omega) (by omega))
  · rw [hp 2 (by decide) (by decide)]; exact H.ls.k (fun q hq => hne _ (by omega) (by omega) (by omega) (by omega))
  · rw [hp 3 (by decide) (by decide)]; exact H.br.k (fun q hq => hne _ (by omega) (by omega) (by omega) (by omega))
  · have e4 : (up (up (up (up S (b + 4) j (S (b + 4) i)) (b + 4) i (S (b + 4) j)) (b + 5) j (S (b + 5) i)) (b + 5) i (S (b + 5) j)) (b + 4) = (up (up S (b + 4) j (S (b + 4) i)) (b + 4) i (S (b + 4) j)) (b + 4) := by rw [up_off (by omega), up_off (by omega)]
    rw [e4]
    by_cases ci : r = i
    · subst ci
      have a1 : (gu (gu (gu (gu g (18 + r) (g (18 + j))) (18 + j) (g (18 + r))) (24 + r) (g (24 + j))) (24 + j) (g (24 + r))) (18 + r) = g (18 + j) := by rw [gu_ne (by omega), gu_ne (by omega), gu_ne (by omega), gu_eq]
      have a2 : (gu (gu (gu (gu g (18 + r) (g (18 + j))) (18 + j) (g (18 + r))) (24 + r) (g (24 + j))) (24 + j) (g (24 + r))) (24 + r) = g (24 + j) := by rw [gu_ne (by omega), gu_eq]
      rw [a1, a2, up_eq, up_eq]
      exact H.to j hj
    · by_cases cj : r = j
      · subst cj
        have a1 : (gu (gu (gu (gu g (18 + i) (g (18 + r))) (18 + r) (g (18 + i))) (24 + i) (g (24 + r))) (24 + r) (g (24 + i))) (18 + r) = g (18 + i) := by rw [gu_ne (by omega), gu_ne (by omega), gu_eq]
        have a2 : (gu (gu (gu (gu g (18 + i) (g (18 + r))) (18 + r) (g (18 + i))) (24 + i) (g (24 + r))) (24 + r) (g (24 + i))) (24 + r) = g (24 + i) := by rw [gu_eq]
        rw [a1, a2, up_k ci, up_eq, up_k ci, up_eq]
        exact H.to i hi
      · rw [hne (18 + r) (by omega) (by omega) (by omega) (by omega), hne (24 + r) (by omega) (by omega) (by omega) (by omega), up_k ci, up_k cj, up_k ci, up_k cj, up_p (by omega), up_p (by omega)]
        exact H.to r hr
  · rw [hp 6 (by decide) (by decide)]; exact H.wa.k (fun q hq => hne _ (by omega) (by omega) (by omega) (by omega))
  · rw [hp 7 (by decide) (by decide)]; exact H.ou.k (fun q hq => hne _ (by omega) (by omega) (by omega) (by omega))
theorem X_exch {i j : Nat} (H : HR S 53 g R) (hi : i < R) (hj : j < R) (hij : i ≠ j) : wp (H_exchangeTongues 53 (nI i) (nI j) S) (fun S' => HR S' 53 (swp g i j) R ∧ offH 53 S S') := by
  have h6 := H.r6
  unfold H_exchangeTongues
  refine wm rfl (by omega) (by decide) ?_
  rw [exch_eq (by omega) (by decide)]
  refine wsb (wm rfl (by omega) (by decide) (wsb (wm rfl (by omega) (by decide) ?_)))
  dsimp only
  rw [exch_eq (by omega) (by decide)]
  refine wsb (wm rfl (by omega) (by decide) (wsb ?_))
  dsimp only
  have m1 : (up (up S (53 + 4) j (S (53 + 4) i)) (53 + 4) i (S (53 + 4) j)) (53 + 5) i = S (53 + 5) i := by rw [up_p (by omega), up_p (by omega)]
  have m2 : (up (up S (53 + 4) j (S (53 + 4) i)) (53 + 4) i (S (53 + 4) j)) (53 + 5) j = S (53 + 5) j := by rw [up_p (by omega), up_p (by omega)]
  rw [m1, m2]
  have H2 := H.swapT hi hj hij
  have o2 : offH 53 S (up (up (up (up S (53 + 4) j (S (53 + 4) i)) (53 + 4) i (S (53 + 4) j)) (53 + 5) j (S (53 + 5) i)) (53 + 5) i (S (53 + 5) j)) := fun p hp => by rw [up_off (by omega), up_off (by omega), up_off (by omega), up_off (by omega)]
  generalize up (up (up (up S (53 + 4) j (S (53 + 4) i)) (53 + 4) i (S (53 + 4) j)) (53 + 5) j (S (53 + 5) i)) (53 + 5) i (S (53 + 5) j) = S2 at *
  have gi : (gu (gu (gu (gu g (18 + i) (g (18 + j))) (18 + j) (g (18 + i))) (24 + i) (g (24 + j))) (24 + j) (g (24 + i))) (18 + i) = g (18 + j) := by rw [gu_ne (by omega), gu_ne (by omega), gu_ne (by omega), gu_eq]
  have gj : (gu (gu (gu (gu g (18 + i) (g (18 + j))) (18 + j) (g (18 + i))) (24 + i) (g (24 + j))) (24 + j) (g (24 + i))) (18 + j) = g (18 + i) := by rw [gu_ne (by omega), gu_ne (by omega), gu_eq]
  have g30i : (gu (gu (gu (gu g (18 + i) (g (18 + j))) (18 + j) (g (18 + i))) (24 + i) (g (24 + j))) (24 + j) (g (24 + i))) (30 + i) = g (30 + i) := by rw [gu_ne (by omega), gu_ne (by omega), gu_ne (by omega), gu_ne (by omega)]
  have g30j : (gu (gu (gu (gu g (18 + i) (g (18 + j))) (18 + j) (g (18 + i))) (24 + i) (g (24 + j))) (24 + j) (g (24 + i))) (30 + j) = g (30 + j) := by rw [gu_ne (by omega), gu_ne (by omega), gu_ne (by omega), gu_ne (by omega)]
  have swE : swp g i j = gu (gu (gu (gu (gu (gu g (18 + i) (g (18 + j))) (18 + j) (g (18 + i))) (24 + i) (g (24 + j))) (24 + j) (g (24 + i))) (30 + i) (if 0 < g (18 + j) then g (30 + i) else nI 0)) (30 + j) (if 0 < g (18 + i) then g (30 + j) else nI 0) := rfl
  generalize gu (gu (gu (gu g (18 + i) (g (18 + j))) (18 + j) (g (18 + i))) (24 + i) (g (24 + j))) (24 + j) (g (24 + i)) = G2 at *
  have fin : ∀ S3 : sg, HR S3 53 (gu G2 (30 + i) (if 0 < g (18 + j) then g (30 + i) else nI 0)) R → offH 53 S S3 → wp (H_exchangeTongues_53 53 (nI j) S3) (fun S' => HR S' 53 (swp g i j) R ∧ offH 53 S S') := fun S3 H3 o3 => by
    have ej : gu G2 (30 + i) (if 0 < g (18 + j) then g (30 + i) else nI 0) (18 + j) = g (18 + i) := by rw [gu_ne (by omega)]; exact gj
    unfold H_exchangeTongues_53
    refine wbP (hasTongue_eq H3 hj) (fun d => ?_) (fun d => ws ⟨?_, o3⟩)
    · rw [take_eq (by omega)]
      refine wsb (ws ⟨?_, fun p hp => ?_⟩)
      · have z := H3.drop hj d
        rw [ej] at d
        rw [swE, if_neg d]; exact z
      · rw [up_off (by omega), up_off (by omega)]; exact o3 p hp
    · rw [ej] at d
      have e3 : g (30 + j) = gu G2 (30 + i) (if 0 < g (18 + j) then g (30 + i) else nI 0) (30 + j) := by rw [gu_ne (by omega)]; exact g30j.symm
      rw [swE, if_pos d, e3, gu_self]; exact H3
  refine wbP (hasTongue_eq H2 hi) (fun d => ?_) (fun d => ?_)
  · rw [take_eq (by omega)]
    refine wsb (fin _ ?_ (fun p hp => ?_))
    · have z := H2.drop hi d
      rw [gi] at d
      rw [if_neg d]; exact z
    · rw [up_off (by omega), up_off (by omega)]; exact o2 p hp
  · refine fin _ ?_ o2
    rw [gi] at d
    rw [if_pos d, ← g30i, gu_self]; exact H2
theorem K_s55 {i : Nat} {k37 k38 : Int32 → Int32 → Int32 → sg → Option (Int32 × sg)} (hN : N < 1000) (H0 : HR s0 11 g R) (e9 : g 49 = nI h) (hh : h ≤ 999) (hi : i < R) (hk : ∀ (y3 y4 : Int32) (s t : sg), offT s0 s → t 10 1 = nI R → (∀ k, k < 52 → pg t 0 k = g k) → w2 (k37 y3 y4 (nI i + nI 1) s) (k38 y4 y3 (nI i + nI 1) t) (fun a b => a.1 = b.1)) : ∀ (n r fu fu' : Nat) (s t : sg) (y3 y4 : Int32), i < r → offT s0 s → t 10 1 = nI R → (∀ k, k < 52 → pg t 0 k = g k) → r + n = R → n < fu → n < fu' → w2 (C_swap_55 k37 (nI N) x2 (nI i) fu y3 y4 (nI r) s) (M_swap_53 k38 (nI N) x2 (nI i) fu' y4 y3 (nI r) t) (fun a b => a.1 = b.1)
  | n, r, 0, fu', s, t, y3, y4, hir, oS, e, hp, hr, hf, hf' => absurd hf (by omega)
  | n, r, fu + 1, 0, s, t, y3, y4, hir, oS, e, hp, hr, hf, hf' => absurd hf' (by omega)
  | n, r, fu + 1, fu' + 1, s, t, y3, y4, hir, oS, e, hp, hr, hf, hf' => by
    have h6 := H0.r6
    have H11 : HR s 11 g R := H0.off (fun p q1 q2 => oS p (by omega))
    rw [C_swap_55, M_swap_53, H11.rm, e]
    by_cases c : r < R
    · rw [if_pos ((nI_ltI (by omega) (by omega)).mpr c), if_pos ((nI_ltI (by omega) (by omega)).mpr c)]
      obtain ⟨n, rfl⟩ : ∃ m, n = m + 1 := ⟨n - 1, by omega⟩
      rw [cpNow_eq, copies_eq (by decide) (by decide) (by omega), nI_add r 1]
      refine w2sl (w2bl (X_exch (H11.copy (b := 53)) hi c (by omega)) (fun S3 hS => ?_))
      have at0 : ∀ k, k < 52 → t 11 k = g k := fun k hk' => by rw [← pg0 (t := t)]; exact hp k hk'
      refine w2sr (w2r (nI_add 18 r) (by omega) (by decide) (w2r (nI_add 278 i) (by omega) (by decide) (w2sr ?_)))
      rw [cpM_ne (show 11 ≠ 11 ∨ 18 + r < 260 ∨ 260 + 52 ≤ 18 + r by omega), at0 (18 + r) (by omega)]
      refine w2r (nI_add 18 i) (by omega) (by decide) (w2r (nI_add 278 r) (by omega) (by decide) (w2sr ?_))
      rw [up_k (show 18 + i ≠ 278 + i by omega), cpM_ne (show 11 ≠ 11 ∨ 18 + i < 260 ∨ 260 + 52 ≤ 18 + i by omega), at0 (18 + i) (by omega)]
      refine w2r (nI_add 24 r) (by omega) (by decide) (w2r (nI_add 284 i) (by omega) (by decide) (w2sr ?_))
      rw [up_k (show 24 + r ≠ 278 + r by omega), up_k (show 24 + r ≠ 278 + i by omega), cpM_ne (show 11 ≠ 11 ∨ 24 + r < 260 ∨ 260 + 52 ≤ 24 + r by omega), at0 (24 + r) (by omega)]
      refine w2r (nI_add 24 i) (by omega) (by decide) (w2r (nI_add 284 r) (by omega) (by decide) (w2sr ?_))
      rw [up_k (show 24 + i ≠ 284 + i by omega), up_k (show 24 + i ≠ 278 + r by omega), up_k (show 24 + i ≠ 278 + i by omega), cpM_ne (show 11 ≠ 11 ∨ 24 + i < 260 ∨ 260 + 52 ≤ 24 + i by omega), at0 (24 + i) (by omega)]
      have lo5 : ∀ k, k < 52 → (up (up (up (up (cpM t 0 260 52) 11 (278 + i) (g (18 + r))) 11 (278 + r) (g (18 + i))) 11 (284 + i) (g (24 + r))) 11 (284 + r) (g (24 + i))) 11 k = g k := fun k hk' => by
        rw [up_k (by omega), up_k (by omega), up_k (by omega), up_k (by omega), cpM_ne (by omega)]; exact at0 k hk'
      have pg5 : ∀ k, k < 52 → pg (up (up (up (up (cpM t 0 260 52) 11 (278 + i) (g (18 + r))) 11 (278 + r) (g (18 + i))) 11 (284 + i) (g (24 + r))) 11 (284 + r) (g (24 + i))) 260 k = gu (gu (gu (gu g (18 + i) (g (18 + r))) (18 + r) (g (18 + i))) (24 + i) (g (24 + r))) (24 + r) (g (24 + i)) k := fun k hk' => by
        rw [show 278 + i = 260 + (18 + i) by omega, show 278 + r = 260 + (18 + r) by omega, show 284 + i = 260 + (24 + i) by omega, show 284 + r = 260 + (24 + r) by omega, pg_up, pg_up, pg_up, pg_up]
        have e0 : pg (cpM t 0 260 52) 260 k = g k := by rw [cpM_at hk']; exact hp k hk'
        unfold gu
        rw [e0]
      have e5 : (up (up (up (up (cpM t 0 260 52) 11 (278 + i) (g (18 + r))) 11 (278 + r) (g (18 + i))) 11 (284 + i) (g (24 + r))) 11 (284 + r) (g (24 + i))) 10 1 = nI R := by
        rw [up_p (by decide), up_p (by decide), up_p (by decide), up_p (by decide), cpM_ne (Or.inl (by decide))]; exact e
      generalize up (up (up (up (cpM t 0 260 52) 11 (278 + i) (g (18 + r))) 11 (278 + r) (g (18 + i))) 11 (284 + i) (g (24 + r))) 11 (284 + r) (g (24 + i)) = T5 at *
      have fin : ∀ z1 z2 : Int32, z1 = (if 0 < g (18 + r) then g (30 + i) else nI 0) → z2 = (if 0 < g (18 + i) then g (30 + r) else nI 0) → w2 ((H_passHours 53 (nI N) S3).bind fun v3 => if v3.1 < y4 then C_swap_55 k37 (nI N) x2 (nI i) fu (((nI 10) * (nI i)) + (nI r)) v3.1 (nI (r + 1)) v3.2 else C_swap_55 k37 (nI N) x2 (nI i) fu y3 y4 (nI (r + 1)) v3.2) (M_swap_221 k38 (M_swap_53 k38 (nI N) x2 (nI i) fu') (nI N) x2 y4 y3 (nI i) (nI r) z2 ((nI 290) + (nI r)) (up T5 11 (290 + i) z1)) (fun a b => a.1 = b.1) := fun z1 z2 hz1 hz2 => by
        unfold M_swap_221
        refine w2r (nI_add 290 r) (by omega) (by decide) (w2sr ?_)
        have epf : ∀ k, k < 52 → pg (up (up T5 11 (290 + i) z1) 11 (290 + r) z2) 260 k = swp g i r k := fun k hk' => by
          rw [show 290 + i = 260 + (30 + i) by omega, show 290 + r = 260 + (30 + r) by omega, pg_up, pg_up]
          show gu (gu (pg T5 260) (30 + i) z1) (30 + r) z2 k = gu (gu (gu (gu (gu (gu g (18 + i) (g (18 + r))) (18 + r) (g (18 + i))) (24 + i) (g (24 + r))) (24 + r) (g (24 + i))) (30 + i) (if 0 < g (18 + r) then g (30 + i) else nI 0)) (30 + r) (if 0 < g (18 + i) then g (30 + r) else nI 0) k
          rw [← hz1, ← hz2]
          have e0 := pg5 k hk'
          generalize gu (gu (gu (gu g (18 + i) (g (18 + r))) (18 + r) (g (18 + i))) (24 + i) (g (24 + r))) (24 + r) (g (24 + i)) = G2 at *
          unfold gu
          rw [e0]
        have s49 : swp g i r 49 = g 49 := by
          unfold swp
          rw [gu_ne (by omega), gu_ne (by omega), gu_ne (by omega), gu_ne (by omega), gu_ne (by omega), gu_ne (by omega)]
        have s50 : swp g i r 50 = g 50 := by
          unfold swp
          rw [gu_ne (by omega), gu_ne (by omega), gu_ne (by omega), gu_ne (by omega), gu_ne (by omega), gu_ne (by omega)]
        refine w2b (K_trial (h := h) hN hS.1 ?_ epf (s49.trans e9) hh ?_) (fun u v q => ?_)
        · rw [up_p (by decide), up_p (by decide)]; exact e5
        · rw [up_k (by omega), up_k (by omega), lo5 50 (by decide), s50]
        · obtain ⟨q1, q2, q3⟩ := q
          rw [← q1]
          have next : ∀ y3' y4' : Int32, w2 (C_swap_55 k37 (nI N) x2 (nI i) fu y3' y4' (nI (r + 1)) u.2) (M_swap_53 k38 (nI N) x2 (nI i) fu' y4' y3' (nI (r + 1)) v.2) (fun a b => a.1 = b.1) := fun y3' y4' => by
            refine K_s55 hN H0 e9 hh hi hk n (r + 1) fu fu' u.2 v.2 y3' y4' (by omega) (fun p hp' => ?_) ?_ (fun k hk' => ?_) (by omega) (by omega) (by omega)
            · rw [q2 p (by omega), hS.2 p (by omega), cpH_off p (by omega)]; exact oS p hp'
            · rw [q3 10 1 (by omega) (by decide) (by omega), up_p (by decide), up_p (by decide)]; exact e5
            · rw [pg0, q3 11 k (by omega) (by decide) (by omega), up_k (by omega), up_k (by omega)]; exact lo5 k hk'
          unfold M_swap_251
          rw [nI_add r 1]
          by_cases d : u.1 < y4
          · rw [if_pos d, if_pos d, if_pos d]; exact next _ _
          · rw [if_neg d, if_neg d, if_neg d]; exact next _ _
      have mid : ∀ z1 : Int32, z1 = (if 0 < g (18 + r) then g (30 + i) else nI 0) → w2 ((H_passHours 53 (nI N) S3).bind fun v3 => if v3.1 < y4 then C_swap_55 k37 (nI N) x2 (nI i) fu (((nI 10) * (nI i)) + (nI r)) v3.1 (nI (r + 1)) v3.2 else C_swap_55 k37 (nI N) x2 (nI i) fu y3 y4 (nI (r + 1)) v3.2) (M_swap_187 k38 (M_swap_53 k38 (nI N) x2 (nI i) fu') (nI N) x2 y4 y3 (nI i) (nI r) z1 ((nI 290) + (nI i)) T5) (fun a b => a.1 = b.1) := fun z1 hz1 => by
        unfold M_swap_187
        refine w2r (nI_add 290 i) (by omega) (by decide) (w2sr ?_)
        have e18 : pg (up T5 11 (290 + i) z1) 0 (18 + i) = g (18 + i) := by rw [pg0, up_k (by omega)]; exact lo5 _ (by omega)
        refine w2Pr (hasT_eq (by omega)) (fun d => ?_) (fun d => ?_)
        · rw [e18] at d
          exact fin _ _ hz1 (by rw [if_neg d])
        · rw [e18] at d
          refine w2r (nI_add 30 r) (by omega) (by decide) ?_
          refine fin _ _ hz1 ?_
          rw [if_pos d, up_k (by omega)]; exact lo5 _ (by omega)
      have e18 : pg T5 0 (18 + r) = g (18 + r) := by rw [pg0]; exact lo5 _ (by omega)
      refine w2Pr (hasT_eq (by omega)) (fun d => ?_) (fun d => ?_)
      · rw [e18] at d
        exact mid _ (by rw [if_neg d])
      · rw [e18] at d
        refine w2r (nI_add 30 i) (by omega) (by decide) ?_
        refine mid _ ?_
        rw [if_pos d]; exact lo5 _ (by omega)
    · rw [if_neg (fun z => c ((nI_ltI (by omega) (by omega)).mp z)), if_neg (fun z => c ((nI_ltI (by omega) (by omega)).mp z))]
      exact hk y3 y4 s t oS e hp
theorem K_s37 (hN : N < 1000) (H0 : HR s0 11 g R) (e9 : g 49 = nI h) (hh : h ≤ 999) : ∀ (n r fu fu' : Nat) (s t : sg) (y3 y4 : Int32), offT s0 s → t 10 1 = nI R → (∀ k, k < 52 → pg t 0 k = g k) → r + n = R → n < fu → n < fu' → w2 (C_swap_37 (nI N) x2 fu y3 y4 (nI r) s) (M_swap_38 (nI N) x2 fu' y4 y3 (nI r) t) (fun a b => a.1 = b.1)
  | n, r, 0, fu', s, t, y3, y4, oS, e, hp, hr, hf, hf' => absurd hf (by omega)
  | n, r, fu + 1, 0, s, t, y3, y4, oS, e, hp, hr, hf, hf' => absurd hf' (by omega)
  | n, r, fu + 1, fu' + 1, s, t, y3, y4, oS, e, hp, hr, hf, hf' => by
    have h6 := H0.r6
    have H11 : HR s 11 g R := H0.off (fun p q1 q2 => oS p (by omega))
    rw [C_swap_37, M_swap_38, H11.rm, e]
    by_cases c : r < R
    · rw [if_pos ((nI_ltI (by omega) (by omega)).mpr c), if_pos ((nI_ltI (by omega) (by omega)).mpr c), nI_add]
      refine K_s55 hN H0 e9 hh c (fun y3' y4' s' t' o' e' hp' => ?_) (R - (r + 1)) (r + 1) FU FU s t y3 y4 (by omega) oS e hp (by omega) (by show R - (r + 1) < 100000; omega) (by show R - (r + 1) < 100000; omega)
      rw [nI_add]
      exact K_s37 hN H0 e9 hh (n - 1) (r + 1) fu fu' s' t' y3' y4' o' e' hp' (by omega) (by omega) (by omega)
    · rw [if_neg (fun z => c ((nI_ltI (by omega) (by omega)).mp z)), if_neg (fun z => c ((nI_ltI (by omega) (by omega)).mp z)), C_ch]
      refine w2sl ?_
      by_cases c : y3 = -4
      · rw [if_pos c, if_pos c]; exact w2s c.symm
      · rw [if_neg c, if_neg c]
        by_cases d : x2 = 0
        · rw [if_pos d, if_pos d]; exact w2s rfl
        · rw [if_neg d, if_neg d]; exact w2s rfl
theorem J_swap (F : RF s t) : w2 (C_swap x1 x2 s) (M_swap x1 x2 t) (fun a b => a.1 = b.1) := by
  obtain ⟨⟨R, G⟩, I, M⟩ := F
  have H := G.h
  have h6 := H.r6
  obtain ⟨R', h, hh, Hs⟩ := I.1
  unfold C_swap M_swap
  refine w2P within_eq (inP (by decide) (by decide)) (fun _ => w2s rfl) (fun c1 => ?_)
  obtain ⟨N, hN, rfl⟩ := in_j (by decide) c1
  refine w2P within_eq (inP (by decide) (by decide)) (fun _ => w2s rfl) (fun c2 => ?_)
  rw [cpNow_eq]
  refine w2sl (w2bl (X_passHours (by omega) G.cp53 (G.h9 Hs) (by omega)) (fun u hu => w2br (Y_hoursGo (N := N) (a := 0) (by omega) h6 G.r (by omega) (G.hh Hs) (by omega)) (fun v hv => ?_)))
  have euv : u.1 = v.1 := by rw [hu.2.2, hv.2.1, pgc_e (by decide), pg0]
  rw [← euv]
  refine K_s37 (s0 := s) (by omega) H (G.hh Hs) hh R 0 FU FU u.2 v.2 _ _ (fun p hp' => ?_) ?_ (base_S hv.2.2.2.2) (by omega) (by show R < 100000; omega) (by show R < 100000; omega)
  · rw [hu.2.1 p (by omega), cpH_off p (by omega)]
  · rw [hv.2.2.2.2 10 1 (by omega) (by decide) (by omega)]; exact G.r
end SWAP
