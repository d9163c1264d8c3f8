/-! the draft of both -/
def DR (s t : sg) (R : Nat) : Prop := (s 29 0 = nI R ∧ R ≤ 6 ∧ t 10 3 = nI R) ∧ (∀ r, r < R → s 30 r = t 12 r ∧ s 31 r = t 12 (6 + r) ∧ s 32 r = t 12 (12 + r)) ∧
  (∀ r, r < 6 → (∃ k : Nat, k ≤ 4 ∧ t 12 (18 + r) = nI k ∧ s 33 r = nI k - nI 1) ∧ (∃ c : Nat, c ≤ 99 ∧ t 12 (24 + r) = nI c) ∧ (0 < t 12 (18 + r) → s 34 r = t 12 (24 + r))) ∧
  (∀ w, w < 5 → s 35 w = t 12 (36 + w) + nI 2) ∧ (∀ i, i < 8 → s 36 i = t 12 (41 + i) + nI 10) ∧ (∀ r, r < 6 → t 12 (30 + r) = nI 0) ∧ (t 12 49 = nI 0 ∧ t 12 50 = nI 0 ∧ t 12 51 = nI 0) ∧ (s 29 1 = nI 0 ∧ s 29 2 = nI 0 ∧ s 29 3 = nI 0 ∧ s 29 4 = nI 0) ∧
  (∃ m hz : Nat, m < 32 ∧ hz ≤ 6 ∧ s 27 10 = nI m ∧ t 10 4 = nI m ∧ t 10 6 = nI hz - nI 1 ∧ (∀ r, r < 6 → 0 < t 12 (18 + r) → r < hz) ∧ (∀ w, w < 5 → m / 2 ^ w % 2 = 1 → w + 1 < hz) ∧ (hz = 0 ∨ 0 < t 12 (18 + (hz - 1)) ∨ (2 ≤ hz ∧ m / 2 ^ (hz - 2) % 2 = 1))) ∧ (s 27 9 = t 10 5 ∧ (t 10 5 = nI 0 ∨ t 10 5 = nI 1))
section DRAFT
variable {s t s' t' s0 : sg} {b : Nat → Int32} {L R : Nat} {x x1 x2 x3 v v1 v2 v3 : Int32}
theorem DR.eq {R' : Nat} (D : DR s t R) (o27 : s' 27 9 = s 27 9 ∧ s' 27 10 = s 27 10) (oS : ∀ q, 29 ≤ q → q ≤ 36 → s' q = s q) (o12 : t' 12 = t 12) (o10 : ∀ k, 3 ≤ k → k ≤ 6 → t' 10 k = t 10 k) (hR : R' = R) : DR s' t' R' := by
  subst hR
  unfold DR
  rw [o27.1, o27.2, oS 29 (by decide) (by decide), oS 30 (by decide) (by decide), oS 31 (by decide) (by decide), oS 32 (by decide) (by decide), oS 33 (by decide) (by decide), oS 34 (by decide) (by decide), oS 35 (by decide) (by decide), oS 36 (by decide) (by decide), o12, o10 3 (by decide) (by decide), o10 4 (by decide) (by decide), o10 5 (by decide) (by decide), o10 6 (by decide) (by decide)]
  exact D
theorem DR.k (D : DR s t R) (k : keepC s s') (o : offK t t') : DR s' t' R :=
  D.eq ⟨k 27 9 (by omega), k 27 10 (by omega)⟩ (fun q h1 h2 => by funext i; exact k q i (by omega)) (by funext i; exact o 12 i (by omega)) (fun i h1 h2 => o 10 i (by omega)) rfl
theorem keepC.lift {q k : Nat} (h : keepC s s') : keepC (up s q k v) (up s' q k v) := fun p j hp => by
  by_cases c : p = q ∧ j = k
  · show (if p = q ∧ j = k then v else s' p j) = (if p = q ∧ j = k then v else s p j)
    rw [if_pos c, if_pos c]
  · show (if p = q ∧ j = k then v else s' p j) = (if p = q ∧ j = k then v else s p j)
    rw [if_neg c, if_neg c]; exact h p j hp
theorem offK.lift {q k : Nat} (h : offK t t') : offK (up t q k v) (up t' q k v) := fun p j hp => by
  by_cases c : p = q ∧ j = k
  · show (if p = q ∧ j = k then v else t' p j) = (if p = q ∧ j = k then v else t p j)
    rw [if_pos c, if_pos c]
  · show (if p = q ∧ j = k then v else t' p j) = (if p = q ∧ j = k then v else t p j)
    rw [if_neg c, if_neg c]; exact h p j hp
theorem DR.room (D : DR s t R) (hR : R < 6) : DR (up (up (up (up s 29 0 (nI (R + 1))) 30 R v1) 31 R v2) 32 R v3) (up (up (up (up t 12 R v1) 12 (6 + R) v2) 12 (12 + R) v3) 10 3 (nI (R + 1))) (R + 1) := by
  obtain ⟨d1, d2, d3, d4, d5, d6, d7, d8, d9, d10⟩ := D
  have oS : ∀ q, q ≠ 29 → q ≠ 30 → q ≠ 31 → q ≠ 32 → (up (up (up (up s 29 0 (nI (R + 1))) 30 R v1) 31 R v2) 32 R v3) q = s q := fun q h1 h2 h3 h4 => by rw [up_off h4, up_off h3, up_off h2, up_off h1]
  have o29 : ∀ k, k ≠ 0 → (up (up (up (up s 29 0 (nI (R + 1))) 30 R v1) 31 R v2) 32 R v3) 29 k = s 29 k := fun k hk => by rw [up_p (by decide), up_p (by decide), up_p (by decide), up_k hk]
  have o12 : ∀ k, k ≠ R → k ≠ 6 + R → k ≠ 12 + R → (up (up (up (up t 12 R v1) 12 (6 + R) v2) 12 (12 + R) v3) 10 3 (nI (R + 1))) 12 k = t 12 k := fun k h1 h2 h3 => by rw [up_p (by decide), up_k h3, up_k h2, up_k h1]
  have o10 : ∀ k, k ≠ 3 → (up (up (up (up t 12 R v1) 12 (6 + R) v2) 12 (12 + R) v3) 10 3 (nI (R + 1))) 10 k = t 10 k := fun k h => by rw [up_k h, up_p (by decide), up_p (by decide), up_p (by decide)]
  refine ⟨⟨?_, by omega, up_eq⟩, fun r hr => ?_, fun r hr => ?_, fun w hw => ?_, fun i hi => ?_, fun r hr => ?_, ?_, ?_, ?_, ?_⟩
  · rw [up_p (by decide), up_p (by decide), up_p (by decide), up_eq]
  · by_cases c : r = R
    · subst c
      refine ⟨?_, ?_, ?_⟩
      · rw [up_p (by decide), up_p (by decide), up_eq, up_p (by decide), up_k (by omega), up_k (by omega), up_eq]
      · rw [up_p (by decide), up_eq, up_p (by decide), up_k (by omega), up_eq]
      · rw [up_eq, up_p (by decide), up_eq]
    · rw [o12 _ (by omega) (by omega) (by omega), o12 _ (by omega) (by omega) (by omega), o12 _ (by omega) (by omega) (by omega)]
      have a30 : (up (up (up (up s 29 0 (nI (R + 1))) 30 R v1) 31 R v2) 32 R v3) 30 r = s 30 r := by rw [up_p (by decide), up_p (by decide), up_k c, up_p (by decide)]
      have a31 : (up (up (up (up s 29 0 (nI (R + 1))) 30 R v1) 31 R v2) 32 R v3) 31 r = s 31 r := by rw [up_p (by decide), up_k c, up_p (by decide), up_p (by decide)]
      have a32 : (up (up (up (up s 29 0 (nI (R + 1))) 30 R v1) 31 R v2) 32 R v3) 32 r = s 32 r := by rw [up_k c, up_p (by decide), up_p (by decide), up_p (by decide)]
      rw [a30, a31, a32]
      exact d2 r (by omega)
  · rw [oS 33 (by decide) (by decide) (by decide) (by decide), oS 34 (by decide) (by decide) (by decide) (by decide), o12 (18 + r) (by omega) (by omega) (by omega), o12 (24 + r) (by omega) (by omega) (by omega)]
    exact d3 r hr
  · rw [oS 35 (by decide) (by decide) (by decide) (by decide), o12 _ (by omega) (by omega) (by omega)]; exact d4 w hw
  · rw [oS 36 (by decide) (by decide) (by decide) (by decide), o12 _ (by omega) (by omega) (by omega)]; exact d5 i hi
  · rw [o12 _ (by omega) (by omega) (by omega)]; exact d6 r hr
  · rw [o12 _ (by omega) (by omega) (by omega), o12 _ (by omega) (by omega) (by omega), o12 _ (by omega) (by omega) (by omega)]; exact d7
  · rw [o29 1 (by decide), o29 2 (by decide), o29 3 (by decide), o29 4 (by decide)]; exact d8
  · obtain ⟨m, hz, m1, m2, m3, m4, m5, m6, m7, m8⟩ := d9
    refine ⟨m, hz, m1, m2, ?_, ?_, ?_, fun r hr => ?_, m7, ?_⟩
    · rw [oS 27 (by decide) (by decide) (by decide) (by decide)]; exact m3
    · rw [o10 4 (by decide)]; exact m4
    · rw [o10 6 (by decide)]; exact m5
    · rw [o12 _ (by omega) (by omega) (by omega)]; exact m6 r hr
    · rw [o12 (18 + (hz - 1)) (by omega) (by omega) (by omega)]; exact m8
  · rw [oS 27 (by decide) (by decide) (by decide) (by decide), o10 5 (by decide)]; exact d10
def mxV (x y : Int32) : Int32 := if x < y then y else x
theorem mx_nat {hz w : Nat} (h1 : hz ≤ 6) (h2 : w < 6) : mxV (nI hz - nI 1) (nI w) = nI (if hz < w + 1 then w + 1 else hz) - nI 1 := by
  unfold mxV
  have e : (nI hz - nI 1 < nI w) ↔ hz < w + 1 := by
    rw [Int32.lt_iff_toInt_lt, pk_sub_toInt (by omega) (by decide), nI_toInt (by omega)]
    omega
  by_cases c : hz < w + 1
  · rw [if_pos (e.mpr c), if_pos c, pk_sub (by omega)]; rfl
  · rw [if_neg (fun z => c (e.mp z)), if_neg c]
theorem DR.tongue {w k c : Nat} (D : DR s t R) (hw : w < 6) (hk : k ≤ 3) (hc : c ≤ 99) (hn : ¬ 0 < t 12 (18 + w)) : DR (up (up s 33 w (nI k)) 34 w (nI c)) (up (up (up t 10 6 (mxV (t 10 6) (nI w))) 12 (18 + w) (nI k + nI 1)) 12 (24 + w) (nI c)) R := by
  obtain ⟨d1, d2, d3, d4, d5, d6, d7, d8, d9, d10⟩ := D
  have oS : ∀ q, q ≠ 33 → q ≠ 34 → (up (up s 33 w (nI k)) 34 w (nI c)) q = s q := fun q h1 h2 => by rw [up_off h2, up_off h1]
  have o12 : ∀ j, j ≠ 18 + w → j ≠ 24 + w → (up (up (up t 10 6 (mxV (t 10 6) (nI w))) 12 (18 + w) (nI k + nI 1)) 12 (24 + w) (nI c)) 12 j = t 12 j := fun j h1 h2 => by rw [up_k h2, up_k h1, up_p (by decide)]
  have o10 : ∀ j, j ≠ 6 → (up (up (up t 10 6 (mxV (t 10 6) (nI w))) 12 (18 + w) (nI k + nI 1)) 12 (24 + w) (nI c)) 10 j = t 10 j := fun j h => by rw [up_p (by decide), up_p (by decide), up_k h]
  have a18 : (up (up (up t 10 6 (mxV (t 10 6) (nI w))) 12 (18 + w) (nI k + nI 1)) 12 (24 + w) (nI c)) 12 (18 + w) = nI (k + 1) := by rw [up_k (by omega), up_eq, nI_add]
  have a24 : (up (up (up t 10 6 (mxV (t 10 6) (nI w))) 12 (18 + w) (nI k + nI 1)) 12 (24 + w) (nI c)) 12 (24 + w) = nI c := up_eq
  have pos : 0 < nI (k + 1) := (nI_ltI (a := 0) (by decide) (by omega)).mpr (by omega)
  refine ⟨⟨?_, d1.2.1, ?_⟩, fun r hr => ?_, fun r hr => ?_, fun q hq => ?_, fun i hi => ?_, fun r hr => ?_, ?_, ?_, ?_, ?_⟩
  · rw [oS 29 (by decide) (by decide)]; exact d1.1
  · rw [o10 3 (by decide)]; exact d1.2.2
  · have h6 := d1.2.1
    rw [oS 30 (by decide) (by decide), oS 31 (by decide) (by decide), oS 32 (by decide) (by decide), o12 _ (by omega) (by omega), o12 _ (by omega) (by omega), o12 _ (by omega) (by omega)]
    exact d2 r hr
  · by_cases z : r = w
    · subst z
      rw [a18, a24]
      refine ⟨⟨k + 1, by omega, rfl, ?_⟩, ⟨c, hc, rfl⟩, fun _ => up_eq⟩
      rw [up_p (by decide), up_eq, pk_sub (by omega)]; rfl
    · rw [o12 (18 + r) (by omega) (by omega), o12 (24 + r) (by omega) (by omega), up_p (show 33 ≠ 34 by decide), up_k z, up_k z, up_p (show 34 ≠ 33 by decide)]
      exact d3 r hr
  · rw [oS 35 (by decide) (by decide), o12 _ (by omega) (by omega)]; exact d4 q hq
  · rw [oS 36 (by decide) (by decide), o12 _ (by omega) (by omega)]; exact d5 i hi
  · rw [o12 _ (by omega) (by omega)]; exact d6 r hr
  · rw [o12 _ (by omega) (by omega), o12 _ (by omega) (by omega), o12 _ (by omega) (by omega)]; exact d7
  · rw [oS 29 (by decide) (by decide)]; exact d8
  · obtain ⟨m, hz, m1, m2, m3, m4, m5, m6, m7, m8⟩ := d9
    refine ⟨m, if hz < w + 1 then w + 1 else hz, m1, ?_, ?_, ?_, ?_, fun r hr hp => ?_, fun q hq hb => ?_, ?_⟩
    · by_cases z : hz < w + 1
      · rw [if_pos z]; omega
      · rw [if_neg z]; exact m2
    · rw [oS 27 (by decide) (by decide)]; exact m3
    · rw [o10 4 (by decide)]; exact m4
    · rw [up_p (by decide), up_p (by decide), up_eq, m5, mx_nat m2 hw]
    · by_cases z : r = w
      · subst z
        by_cases z2 : hz < r + 1
        · rw [if_pos z2]; omega
        · rw [if_neg z2]; omega
      · rw [o12 _ (by omega) (by omega)] at hp
        have := m6 r hr hp
        by_cases z2 : hz < w + 1
        · rw [if_pos z2]; omega
        · rw [if_neg z2]; omega
    · have := m7 q hq hb
      by_cases z2 : hz < w + 1
      · rw [if_pos z2]; omega
      · rw [if_neg z2]; omega
    · by_cases z2 : hz < w + 1
      · rw [if_pos z2]
        refine Or.inr (Or.inl ?_)
        rw [show w + 1 - 1 = w by omega, a18]; exact pos
      · rw [if_neg z2]
        rcases m8 with q | q | q
        · exact Or.inl q
        · refine Or.inr (Or.inl ?_)
          by_cases z3 : hz - 1 = w
          · rw [z3, a18]; exact pos
          · rw [o12 _ (by omega) (by omega)]; exact q
        · exact Or.inr (Or.inr q)
  · rw [oS 27 (by decide) (by decide), o10 5 (by decide)]; exact d10
def orb (m w : Nat) : Nat := if m / 2 ^ w % 2 = 1 then m else m + 2 ^ w
theorem orb_i : ∀ m : Nat, m < 32 → ∀ w : Nat, w < 5 → (nI m ||| (nI 1 <<< (nI w &&& 31))) = nI (orb m w) ∧ orb m w < 32 := by decide +kernel
theorem orb_b : ∀ m : Nat, m < 32 → ∀ w : Nat, w < 5 → ∀ q : Nat, q < 5 → orb m w / 2 ^ q % 2 = if q = w then 1 else m / 2 ^ q % 2 := by decide +kernel
theorem DR.wall {w : Nat} (D : DR s t R) (hw : w < 5) : DR (up (up s 27 10 (s 27 10 ||| (nI 1 <<< (nI w &&& 31)))) 35 w v) (up (up (up t 10 6 (mxV (t 10 6) (nI (w + 1)))) 10 4 (t 10 4 ||| (nI 1 <<< (nI w &&& 31)))) 12 (36 + w) (v - nI 2)) R := by
  obtain ⟨d1, d2, d3, d4, d5, d6, d7, d8, d9, d10⟩ := D
  have oS : ∀ q, q ≠ 27 → q ≠ 35 → (up (up s 27 10 (s 27 10 ||| (nI 1 <<< (nI w &&& 31)))) 35 w v) q = s q := fun q h1 h2 => by rw [up_off h2, up_off h1]
  have o12 : ∀ j, j ≠ 36 + w → (up (up (up t 10 6 (mxV (t 10 6) (nI (w + 1)))) 10 4 (t 10 4 ||| (nI 1 <<< (nI w &&& 31)))) 12 (36 + w) (v - nI 2)) 12 j = t 12 j := fun j h2 => by rw [up_k h2, up_p (by decide), up_p (by decide)]
  have o10 : ∀ j, j ≠ 6 → j ≠ 4 → (up (up (up t 10 6 (mxV (t 10 6) (nI (w + 1)))) 10 4 (t 10 4 ||| (nI 1 <<< (nI w &&& 31)))) 12 (36 + w) (v - nI 2)) 10 j = t 10 j := fun j h h2 => by rw [up_p (by decide), up_k h2, up_k h]
  refine ⟨⟨?_, d1.2.1, ?_⟩, fun r hr => ?_, fun r hr => ?_, fun q hq => ?_, fun i hi => ?_, fun r hr => ?_, ?_, ?_, ?_, ?_⟩
  · rw [oS 29 (by decide) (by decide)]; exact d1.1
  · rw [o10 3 (by decide) (by decide)]; exact d1.2.2
  · have h6 := d1.2.1
    rw [oS 30 (by decide) (by decide), oS 31 (by decide) (by decide), oS 32 (by decide) (by decide), o12 _ (by omega), o12 _ (by omega), o12 _ (by omega)]
    exact d2 r hr
  · rw [oS 33 (by decide) (by decide), oS 34 (by decide) (by decide), o12 (18 + r) (by omega), o12 (24 + r) (by omega)]
    exact d3 r hr
  · by_cases z : q = w
    · subst z
      rw [up_eq, up_eq]; exact sub_add _ _
    · rw [up_k z, up_p (by decide), o12 _ (by omega)]; exact d4 q hq
  · rw [oS 36 (by decide) (by decide), o12 _ (by omega)]; exact d5 i hi
  · rw [o12 _ (by omega)]; exact d6 r hr
  · rw [o12 _ (by omega), o12 _ (by omega), o12 _ (by omega)]; exact d7
  · rw [oS 29 (by decide) (by decide)]; exact d8
  · obtain ⟨m, hz, m1, m2, m3, m4, m5, m6, m7, m8⟩ := d9
    obtain ⟨u1, u2⟩ := orb_i m m1 w hw
    refine ⟨orb m w, if hz < w + 1 + 1 then w + 1 + 1 else hz, u2, ?_, ?_, ?_, ?_, fun r hr hp => ?_, fun q hq hb => ?_, ?_⟩
    · by_cases z : hz < w + 1 + 1
      · rw [if_pos z]; omega
      · rw [if_neg z]; exact m2
    · rw [up_p (by decide), up_eq, m3]; exact u1
    · rw [up_p (by decide), up_eq, m4]; exact u1
    · rw [up_p (by decide), up_k (by decide), up_eq, m5, mx_nat m2 (by omega)]
    · rw [o12 _ (by omega)] at hp
      have := m6 r hr hp
      by_cases z2 : hz < w + 1 + 1
      · rw [if_pos z2]; omega
      · rw [if_neg z2]; omega
    · rw [orb_b m m1 w hw q hq] at hb
      by_cases z : q = w
      · subst z
        by_cases z2 : hz < q + 1 + 1
        · rw [if_pos z2]; omega
        · rw [if_neg z2]; omega
      · rw [if_neg z] at hb
        have := m7 q hq hb
        by_cases z2 : hz < w + 1 + 1
        · rw [if_pos z2]; omega
        · rw [if_neg z2]; omega
    · by_cases z2 : hz < w + 1 + 1
      · rw [if_pos z2]
        refine Or.inr (Or.inr ⟨by omega, ?_⟩)
        rw [show w + 1 + 1 - 2 = w by omega, orb_b m m1 w hw w hw, if_pos rfl]
      · rw [if_neg z2]
        rcases m8 with q | q | ⟨q1, q2⟩
        · exact Or.inl q
        · refine Or.inr (Or.inl ?_)
          rw [o12 _ (by omega)]; exact q
        · refine Or.inr (Or.inr ⟨q1, ?_⟩)
          rw [orb_b m m1 w hw (hz - 2) (by omega)]
          by_cases z3 : hz - 2 = w
          · rw [if_pos z3]
          · rw [if_neg z3]; exact q2
  · rw [up_p (by decide), up_k (by decide), o10 5 (by decide) (by decide)]; exact d10
theorem DR.out1 (D : DR s t R) : DR (up s 27 9 (nI 1)) (up t 10 5 (nI 1)) R := by
  obtain ⟨d1, d2, d3, d4, d5, d6, d7, d8, d9, d10⟩ := D
  have oS : ∀ q, q ≠ 27 → (up s 27 9 (nI 1)) q = s q := fun q h1 => up_off h1
  have oT : (up t 10 5 (nI 1)) 12 = t 12 := up_off (by decide)
  have o10 : ∀ j, j ≠ 5 → (up t 10 5 (nI 1)) 10 j = t 10 j := fun j h => up_k h
  unfold DR
  rw [oS 29 (by decide), oS 30 (by decide), oS 31 (by decide), oS 32 (by decide), oS 33 (by decide), oS 34 (by decide), oS 35 (by decide), oS 36 (by decide), oT, o10 3 (by decide), o10 4 (by decide), o10 6 (by decide), up_k (show 10 ≠ 9 by decide), up_eq, up_eq]
  exact ⟨d1, d2, d3, d4, d5, d6, d7, d8, d9, rfl, Or.inr rfl⟩
theorem DR.outs {i : Nat} (D : DR s t R) (hi : i < 8) : DR (up s 36 i v) (up t 12 (41 + i) (v - nI 10)) R := by
  obtain ⟨d1, d2, d3, d4, d5, d6, d7, d8, d9, d10⟩ := D
  have oS : ∀ q, q ≠ 36 → (up s 36 i v) q = s q := fun q h1 => up_off h1
  have o12 : ∀ j, j ≠ 41 + i → (up t 12 (41 + i) (v - nI 10)) 12 j = t 12 j := fun j h => up_k h
  have oT : (up t 12 (41 + i) (v - nI 10)) 10 = t 10 := up_off (by decide)
  have h6 := d1.2.1
  unfold DR
  rw [oS 27 (by decide), oS 29 (by decide), oS 30 (by decide), oS 31 (by decide), oS 32 (by decide), oS 33 (by decide), oS 34 (by decide), oS 35 (by decide), oT]
  refine ⟨d1, fun r hr => ?_, fun r hr => ?_, fun w hw => ?_, fun q hq => ?_, fun r hr => ?_, ?_, d8, ?_, d10⟩
  · rw [o12 _ (by omega), o12 _ (by omega), o12 _ (by omega)]; exact d2 r hr
  · rw [o12 _ (by omega), o12 _ (by omega)]; exact d3 r hr
  · rw [o12 _ (by omega)]; exact d4 w hw
  · by_cases z : q = i
    · subst z
      rw [up_eq, up_eq]; exact sub_add _ _
    · rw [up_k z, o12 _ (by omega)]; exact d5 q hq
  · rw [o12 _ (by omega)]; exact d6 r hr
  · rw [o12 _ (by omega), o12 _ (by omega), o12 _ (by omega)]; exact d7
  · obtain ⟨m, hz, m1, m2, m3, m4, m5, m6, m7, m8⟩ := d9
    refine ⟨m, hz, m1, m2, m3, m4, m5, fun r hr => ?_, m7, ?_⟩
    · rw [o12 _ (by omega)]; exact m6 r hr
    · rw [o12 _ (by omega)]; exact m8
end DRAFT
