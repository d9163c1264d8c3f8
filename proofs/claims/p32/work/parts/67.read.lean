/-! marks read from a sheet, by both -/
def fcV (t : sg) (j : Nat) (x2 x3 : Int32) (n q : Nat) : Int32 := if t 20 j = -4 then nI 1 else if t 20 j = x2 then (if ¬ x3 + nI q < nI 0 ∧ x3 + nI q < nI n then nI 0 else nI 2) else nI 3
section READ
variable {s t s0 t0' : sg} {R n : Nat} {x x1 x2 x3 x4 y : Int32}
theorem rd_iff {q : Nat} (hq : q < 1000) (hn : n ≤ 40) : (¬ x3.toInt64 + (nI q).toInt64 < (0 : Int64) ∧ ¬ (nI n - nI 1).toInt64 < x3.toInt64 + (nI q).toInt64) ↔ (¬ x3 + nI q < nI 0 ∧ x3 + nI q < nI n) := by
  have h1 := x3.toInt_lt
  have h2 := x3.le_toInt
  have e : (x3.toInt64 + (nI q).toInt64).toInt = x3.toInt + q := by
    rw [Int64.toInt_add, Int32.toInt_toInt64, Int32.toInt_toInt64, nI_toInt (by omega)]
    rw [Int.bmod_eq_of_le (by omega) (by omega)]
  have e2 : (x3 + nI q).toInt = (x3.toInt + q).bmod (2 ^ 32) := by rw [Int32.toInt_add, nI_toInt (by omega)]
  have e3 : (nI n - nI 1).toInt64.toInt = (n : Int) - 1 := by rw [Int32.toInt_toInt64, pk_sub_toInt (by omega) (by decide)]; rfl
  have e4 : (nI n).toInt = n := nI_toInt (by omega)
  have e0 : (nI 0).toInt = 0 := rfl
  have z0 : (0 : Int64).toInt = 0 := rfl
  rw [Int64.lt_iff_toInt_lt, Int64.lt_iff_toInt_lt, Int32.lt_iff_toInt_lt, Int32.lt_iff_toInt_lt, e, e2, e3, e4, e0, z0, Int.bmod_def]
  split <;> omega
theorem rf_step {j q N fu : Nat} {x6 : Int32} (hj : j < 4) (hn : n ≤ 40) (en : t 21 j = nI n) (hq : q < 2 * N) (hN : N ≤ 20) : M_read_56 (nI j) x2 x3 (nI N) (fu + 1) (nI 0) x6 (nI q) t = M_read_126 (M_read_56 (nI j) x2 x3 (nI N) fu) (nI j) x2 x3 (nI N) x6 (nI q) (fcV t j x2 x3 n q) t := by
  rw [M_read_56, pk_mul, if_pos ((nI_ltI (by omega) (by omega)).mpr hq), if_pos (by decide), midx_nI hj (by decide)]
  unfold fcV
  show (if t 20 j = -4 then _ else _) = _
  by_cases c : t 20 j = -4
  · rw [if_pos c, if_pos c]
  · rw [if_neg c, if_neg c]
    show (if t 20 j = x2 then _ else _) = _
    by_cases d : t 20 j = x2
    · rw [if_pos d, if_pos d]
      have hi := rd_iff (x3 := x3) (q := q) (n := n) (by omega) hn
      show (M_in (x3.toInt64 + (nI q).toInt64) (0 : Int64) ((t 21 j - nI 1).toInt64) t).bind _ = _
      rw [en]
      unfold M_in
      by_cases f : ¬ x3 + nI q < nI 0 ∧ x3 + nI q < nI n
      · have f' := hi.mpr f
        rw [if_pos f, if_neg f'.1, if_neg f'.2]; rfl
      · rw [if_neg f]
        by_cases z : x3.toInt64 + (nI q).toInt64 < (0 : Int64)
        · rw [if_pos z]; rfl
        · rw [if_neg z]
          by_cases z2 : (nI n - nI 1).toInt64 < x3.toInt64 + (nI q).toInt64
          · rw [if_pos z2]; rfl
          · exact absurd (hi.mp ⟨z, z2⟩) f
    · rw [if_neg d, if_neg d]
theorem cl_fault {j q : Nat} (S : SH s t) (hj : j < 4) (en : t 21 j = nI n) (hx : ∃ l : Nat, l ≤ 2 ∧ x2 = nI l) : S_faultAt (133 + 2 * j) x2 (x3 + nI q) s = some (fcV t j x2 x3 n q) := by
  obtain ⟨l', hl', rfl⟩ := hx
  obtain ⟨z1, m, m1, m2, m3, m4⟩ := S j hj
  unfold S_faultAt S_isThere fcV
  rcases z1 with ⟨q1, q2⟩ | ⟨l, hl, q1, q2⟩
  · rw [q1, q2, if_pos rfl, if_pos rfl]; rfl
  · have l1 : ¬ nI l = -1 := by
      have hl' : l = 0 ∨ l = 1 ∨ l = 2 := by omega
      rcases hl' with rfl | rfl | rfl <;> decide
    have l4 : ¬ nI l = -4 := by
      have hl' : l = 0 ∨ l = 1 ∨ l = 2 := by omega
      rcases hl' with rfl | rfl | rfl <;> decide
    rw [q1, q2, if_neg l1, if_neg l4]
    show (if nI 1 = 0 then some (nI 1) else if nI l' = nI l then if x3 + nI q < 0 then some (nI 2) else if x3 + nI q < s (133 + 2 * j) 1 then some (nI 0) else some (nI 2) else some (nI 3)) = _
    rw [if_neg (by decide), m2, ← m3, en]
    by_cases c : nI l' = nI l
    · rw [if_pos c, if_pos c.symm]
      by_cases d : x3 + nI q < nI 0
      · rw [if_pos (show x3 + nI q < 0 from d), if_neg (fun w => w.1 d)]
      · rw [if_neg (show ¬ x3 + nI q < 0 from d)]
        by_cases f : x3 + nI q < nI n
        · rw [if_pos f, if_pos ⟨d, f⟩]
        · rw [if_neg f, if_neg (fun w => f w.2)]
    · rw [if_neg c, if_neg (fun w => c w.symm)]
theorem fc_0 {j q : Nat} (h : fcV t j x2 x3 n q = 0) : ¬ x3 + nI q < nI 0 ∧ x3 + nI q < nI n := by
  unfold fcV at h
  by_cases c : t 20 j = -4
  · rw [if_pos c] at h; exact absurd h (by decide)
  · rw [if_neg c] at h
    by_cases d : t 20 j = x2
    · rw [if_pos d] at h
      by_cases f : ¬ x3 + nI q < nI 0 ∧ x3 + nI q < nI n
      · exact f
      · rw [if_neg f] at h; exact absurd h (by decide)
    · rw [if_neg d] at h; exact absurd h (by decide)
theorem cl_pair {j a : Nat} (S : SH s t) (hj : j < 4) (en : t 21 j = nI n) (hx : ∃ l : Nat, l ≤ 2 ∧ x2 = nI l) : S_faultAtPair (133 + 2 * j) x2 (x3 + nI 2 * nI a) s = some (if fcV t j x2 x3 n (2 * a) = 0 then fcV t j x2 x3 n (2 * a + 1) else fcV t j x2 x3 n (2 * a)) := by
  unfold S_faultAtPair
  rw [pk_mul, cl_fault S hj en hx]
  show (if fcV t j x2 x3 n (2 * a) = 0 then (S_faultAt (133 + 2 * j) x2 (x3 + nI (2 * a) + nI 1) s).bind (fun v2 => some v2) else some (fcV t j x2 x3 n (2 * a))) = _
  rw [Int32.add_assoc, nI_add, cl_fault S hj en hx]
  by_cases c : fcV t j x2 x3 n (2 * a) = 0
  · rw [if_pos c, if_pos c]; rfl
  · rw [if_neg c, if_neg c]
theorem RG.torn (G : RG s t R) : RG (up s 10 7 y) (up t 10 28 y) R := by
  have oS : ∀ p, p ≠ 10 → (up s 10 7 y) p = s p := fun p h1 => up_off h1
  have oT : ∀ q, q ≠ 10 → (up t 10 28 y) q = t q := fun q h1 => up_off h1
  have oO : ∀ k, k ≠ 28 → (up t 10 28 y) 10 k = t 10 k := fun k hk => up_k hk
  refine ⟨(oO 1 (by decide)).trans G.r, ?_, ?_, ?_, ?_, ?_, ?_, ?_⟩
  · rw [pgE (oT 11 (by decide))]
    exact G.h.off (fun p q1 q2 => oS p (by omega))
  · exact G.kp.k (oS 20 (by omega)) (fun p _ _ => oS p (by omega)) (oT 19 (by decide)) (fun k _ _ => by rw [oT 11 (by decide)])
  · exact G.tp.k (by rw [oS 27 (by omega)]) (oS 28 (by omega)) (oO 8 (by decide)) (oT 13 (by decide))
  · exact G.fe.k (oS 23 (by omega)) (oS 24 (by omega)) (oS 25 (by omega)) (oS 26 (by omega)) (oO 22 (by decide)) (oT 17 (by decide))
  · exact G.sh.k (fun p _ _ => oS p (by omega)) (oT 20 (by decide)) (oT 21 (by decide)) (oT 22 (by decide))
  · rw [up_eq, up_eq]
  · exact G.lt.k (oT 14 (by decide)) (oT 15 (by decide))
theorem cl_stop {b N fu : Nat} {x8 x9 : Int32} (hy : ¬ y = 0) : C_read_54 x2 x3 (nI N) b (fu + 1) y x8 x9 s = C_read_130 y x8 s := by
  rw [C_read_54]
  by_cases c : x9 < nI N
  · rw [if_pos c, if_neg hy]
  · rw [if_neg c]
theorem rf_stop {N fu : Nat} {x6 x7 : Int32} (hy : ¬ y = 0) : M_read_56 x1 x2 x3 (nI N) (fu + 1) y x6 x7 t = M_read_228 y x6 t := by
  rw [M_read_56]
  by_cases c : x7 < nI 2 * nI N
  · rw [if_pos c, if_neg hy]
  · rw [if_neg c]
theorem rdf_ne {k56 : Int32 → Int32 → Int32 → sg → Option (Int32 × sg)} {x6 x7 : Int32} (hy : ¬ y = 0) : M_read_126 k56 x1 x2 x3 x4 x6 x7 y t = k56 y x6 (x7 + nI 1) t := by
  unfold M_read_126
  rw [if_neg hy]
theorem rdf_ev {k56 : Int32 → Int32 → Int32 → sg → Option (Int32 × sg)} {x6 : Int32} {a : Nat} (ha : a < 1000) : M_read_126 k56 x1 x2 x3 x4 x6 (nI (2 * a)) (nI 0) t = k56 (nI 0) x6 (nI (2 * a + 1)) t := by
  unfold M_read_126
  rw [if_pos (by decide), pk_rem (by omega) (by decide) (by decide), if_neg (i32_ne (by omega) (by omega) (by decide)), nI_add]
theorem rdf_od {k56 : Int32 → Int32 → Int32 → sg → Option (Int32 × sg)} {x6 : Int32} {j i a : Nat} (hj : j < 4) (hi : i < 39) (ha : a < 1000) (ei : x3 + nI (2 * a + 1) = nI (i + 1)) : M_read_126 k56 (nI j) x2 x3 x4 x6 (nI (2 * a + 1)) (nI 0) t = (M_marks (t 22 (40 * j + i)) (t 22 (40 * j + (i + 1))) t).bind fun v1 => if v1.1 < 0 then M_read_192 k56 (nI j) x2 x3 x4 (nI 0) x6 (nI (2 * a + 1)) v1.2 else if v1.2 11 49 < nI 999 then M_read_193 k56 (nI j) x2 x3 x4 (nI 0) x6 (nI (2 * a + 1)) (nI 1) v1.2 else M_read_192 k56 (nI j) x2 x3 x4 (nI 0) x6 (nI (2 * a + 1)) v1.2 := by
  have e2 : nI 40 * nI j + x3 + nI (2 * a + 1) = nI (40 * j + (i + 1)) := by rw [pk_mul, Int32.add_assoc, ei, nI_add]
  have e1 : nI 40 * nI j + x3 + nI (2 * a + 1) - nI 1 = nI (40 * j + i) := by rw [e2, pk_sub (by omega)]; rfl
  unfold M_read_126
  rw [if_pos (by decide), pk_rem (by omega) (by decide) (by decide), show (2 * a + 1) % 2 = 1 by omega, if_pos rfl, e1, e2, midx_nI (by omega) (by decide), midx_nI (by omega) (by decide)]
  rfl
theorem J_rd {j N : Nat} (hj : j < 4) (hN : N ≤ 20) (G0 : RG s0 t0' R) (hx : ∃ l : Nat, l ≤ 2 ∧ x2 = nI l) : ∀ (n a fu fu' : Nat) (s t : sg) (h : Nat), offT s0 s → offG t0' t → HR s 53 (pg t 0) R → pg t 0 49 = nI h → h ≤ 999 → (∀ i, i < 52 → pg t 156 i = pg t0' 0 i) → a + n = N → n + 1 < fu → 2 * n + 1 < fu' → w2 (C_read_54 x2 x3 (nI N) (133 + 2 * j) fu (nI 0) (nI a) (nI a) s) (M_read_56 (nI j) x2 x3 (nI N) fu' (nI 0) (nI a) (nI (2 * a)) t) JQ
  | n, a, 0, fu', s, t, h, oS, oT, H, e9, hh, hb, hr, hf, hf' => absurd hf (by omega)
  | n, a, 1, fu', s, t, h, oS, oT, H, e9, hh, hb, hr, hf, hf' => absurd hf (by omega)
  | n, a, fu + 2, 0, s, t, h, oS, oT, H, e9, hh, hb, hr, hf, hf' => absurd hf' (by omega)
  | n, a, fu + 2, 1, s, t, h, oS, oT, H, e9, hh, hb, hr, hf, hf' => absurd hf' (by omega)
  | n, a, fu + 2, fu' + 2, s, t, h, oS, oT, H, e9, hh, hb, hr, hf, hf' => by
    have h6 := H.r6
    have done : ∀ y : Int32, w2 (C_read_130 y (nI a) s) (M_read_228 y (nI a) t) JQ := fun y => by
      unfold C_read_130 M_read_228
      rw [copyFrom_eq (show dj 11 53 from Or.inl (by decide))]
      refine w2sl (w2sl (w2sr (w2s ⟨rfl, R, ?_⟩)))
      refine RG.torn (G0.fr (fun p q1 q2 => ?_) oT ?_)
      · rw [cpH_off p (by omega)]; exact oS p q2
      · exact H.copy
    have stop : ∀ t1 : sg, (∀ q k, ¬ (q = 11 ∧ k < 52) → t1 q k = t q k) → w2 (some ((-20) - nI a, s)) ((M_copies (nI 156) (nI 0) t1).bind fun s2 => some ((-20) - nI a, s2)) JQ := fun t1 o1 => by
      rw [copies_eq (by decide) (by decide) (by omega)]
      refine w2sr (w2s ⟨rfl, R, ?_⟩)
      refine G0.fr (fun p q1 q2 => oS p q2) (fun q k a1 a2 a3 a4 => ?_) (HR.e (G0.h.off (fun p q1 q2 => oS p (by omega))) (fun i hi => ?_))
      · have z : cpM t1 156 0 52 q k = t1 q k := cpM_ne (by omega)
        exact z.trans ((o1 q k (by omega)).trans (oT q k a1 a2 a3 a4))
      · rw [cpM_at hi]
        show t1 11 (156 + i) = _
        rw [o1 _ _ (by omega)]
        exact hb i hi
    by_cases ca : a < N
    · obtain ⟨n, rfl⟩ : ∃ m, n = m + 1 := ⟨n - 1, by omega⟩
      obtain ⟨fu', rfl⟩ : ∃ m, fu' = m + 1 := ⟨fu' - 1, by omega⟩
      have S : SH s t := G0.sh.k (fun p _ _ => oS p (by omega)) (oT.fn (by decide)) (oT.fn (by decide)) (oT.fn (by decide))
      obtain ⟨z1, m, m1, m2, m3, m4⟩ := S j hj
      have r1 : M_read_56 (nI j) x2 x3 (nI N) (fu' + 1 + 2) (nI 0) (nI a) (nI (2 * a)) t = M_read_126 (M_read_56 (nI j) x2 x3 (nI N) (fu' + 1 + 1)) (nI j) x2 x3 (nI N) (nI a) (nI (2 * a)) (fcV t j x2 x3 m (2 * a)) t := rf_step hj m1 m3 (by omega) hN
      have r2 : M_read_56 (nI j) x2 x3 (nI N) (fu' + 1 + 1) (nI 0) (nI a) (nI (2 * a + 1)) t = M_read_126 (M_read_56 (nI j) x2 x3 (nI N) (fu' + 1)) (nI j) x2 x3 (nI N) (nI a) (nI (2 * a + 1)) (fcV t j x2 x3 m (2 * a + 1)) t := rf_step hj m1 m3 (by omega) hN
      rw [r1, C_read_54, if_pos ((nI_ltI (by omega) (by omega)).mpr ca), if_pos (by decide), cl_pair S hj m3 hx]
      refine w2sl ?_
      by_cases c0 : fcV t j x2 x3 m (2 * a) = 0
      · rw [if_pos c0, show fcV t j x2 x3 m (2 * a) = nI 0 from c0, rdf_ev (by omega), r2]
        by_cases c1 : fcV t j x2 x3 m (2 * a + 1) = 0
        · obtain ⟨d1, d2⟩ := fc_0 c0
          obtain ⟨f1, f2⟩ := fc_0 c1
          obtain ⟨i, hi, ei⟩ := nI_of d1
          have hin : i < m := by rw [ei] at d2; exact (nI_ltI hi (by omega)).mp d2
          have ei1 : x3 + nI (2 * a + 1) = nI (i + 1) := by rw [← nI_add, ← Int32.add_assoc, ei, nI_add]
          have hin1 : i + 1 < m := by rw [ei1] at f2; exact (nI_ltI (by omega) (by omega)).mp f2
          rw [if_pos c1, show fcV t j x2 x3 m (2 * a + 1) = nI 0 from c1, rdf_od hj (by omega) (by omega) ei1, pk_mul, ei]
          refine w2l rfl (by omega) (by decide) (w2l (nI_add i 1) (by omega) (by decide) ?_)
          rw [m4 i hin, m4 (i + 1) hin1]
          unfold H_takesMarkAndHour
          rcases marks_2 (x1 := t 22 (40 * j + i)) (x2 := t 22 (40 * j + (i + 1))) H ((oT.ob (by decide)).trans G0.r) with ⟨v, h1, h2, g1, g2⟩ | ⟨j', c, hj', hc, u1, u2, c3, g1, g2⟩
          · rw [g1, g2]
            refine w2sr ?_
            dsimp only
            rw [if_pos h2]
            show w2 ((if v = 0 then _ else some (nI 0, s)).bind _) _ JQ
            rw [if_neg h1]
            refine w2sl ?_
            dsimp only
            rw [if_pos (by decide)]
            unfold M_read_192 M_read_193
            rw [if_pos (by decide)]
            exact stop t (fun _ _ _ => rfl)
          · rw [g1, g2]
            refine w2sr ?_
            dsimp only
            obtain ⟨_, ⟨c', hc', e24⟩, _⟩ := H.to j' hj'
            rw [pg0] at e24
            have u49 : up t 11 (24 + j') (nI c) 11 49 = t 11 49 := up_k (by omega)
            rw [e24, if_neg (nI_pos (by omega))]
            show w2 ((if nI 0 = 0 then (if s 53 2 < nI 999 then (midx (t 22 (40 * j + i)) 6).bind _ else some (nI 0, s)) else some (nI 0, s)).bind _) _ JQ
            have e49 : s 53 2 = t 11 49 := by rw [H.hr, pg0]
            rw [if_pos (by decide), e49]
            by_cases c4 : t 11 49 < nI 999
            · have c4' : up t 11 (24 + j') (nI c) 11 49 < nI 999 := by rw [u49]; exact c4
              rw [if_pos c4, if_pos c4', u1, midx_nI (by omega) (by decide)]
              have H5 : HR (up s (53 + 5) j' (nI c)) 53 (gu (pg t 0) (24 + j') (nI c)) R := H.set5 hj' hc
              have e9' : gu (pg t 0) (24 + j') (nI c) 49 = nI h := by rw [gu_ne (by omega)]; exact e9
              have hlt : h < 999 := by rw [← pg0 (t := t), e9] at c4; exact (nI_ltI (by omega) (by decide)).mp c4
              obtain ⟨s2, es, H2, o2⟩ := X_passHour H5 e9' (by omega)
              have ep : pg (up t 11 (24 + j') (nI c)) 0 = gu (pg t 0) (24 + j') (nI c) := pg_up0
              obtain ⟨t2, et, P2, q2⟩ := Y_goesOn (t := up t 11 (24 + j') (nI c)) (p := 0) (R := R) (h := h) (by decide) h6 (by rw [up_p (by decide)]; exact (oT.ob (by decide)).trans G0.r) (by rw [ep]; exact e9') (by omega)
              rw [ep] at P2
              show w2 (((H_passHour 53 (up s (53 + 5) j' (t 22 (40 * j + (i + 1))))).bind fun s2 => some (nI 1, s2)).bind _) _ JQ
              rw [u2, es]
              refine w2sl ?_
              dsimp only
              rw [if_neg (by decide), nI_add]
              unfold M_read_193
              rw [if_neg (by decide), et]
              refine w2sr ?_
              rw [nI_add, nI_add, show 2 * a + 1 + 1 = 2 * (a + 1) by omega]
              refine J_rd hj hN G0 hx n (a + 1) (fu + 1) (fu' + 1) s2 t2 (h + 1) (oS.tr (fun p hp => ?_)) (oT.tr ((offG.u (by omega)).tr q2.g)) (by rw [P2]; exact H2) (by rw [P2]; exact nextV_49 h6 e9') (by omega) (fun i' hi' => ?_) (by omega) (by omega) (by omega)
              · rw [o2 p (by omega), up_off (by omega)]
              · rw [← hb i' hi']
                show t2 11 (156 + i') = t 11 (156 + i')
                rw [q2 11 _ (by omega) (by decide), up_k (by omega)]
            · have c4' : ¬ up t 11 (24 + j') (nI c) 11 49 < nI 999 := by rw [u49]; exact c4
              rw [if_neg c4, if_neg c4']
              refine w2sl ?_
              dsimp only
              rw [if_pos (by decide)]
              unfold M_read_192 M_read_193
              rw [if_pos (by decide)]
              exact stop _ (fun q k hq => if_neg (fun w => hq ⟨w.1, by omega⟩))
        · rw [if_neg c1, cl_stop c1, rdf_ne c1, rf_stop c1]
          exact done _
      · rw [if_neg c0, if_neg c0, cl_stop c0, rdf_ne c0, rf_stop c0]
        exact done _
    · obtain rfl : n = 0 := by omega
      rw [C_read_54, if_neg (fun w => ca ((nI_ltI (by omega) (by omega)).mp w)), M_read_56, pk_mul, if_neg (fun w => by have := (nI_ltI (by omega) (by omega)).mp w; omega)]
      exact done _
theorem J_read (F : RF s t) : w2 (C_read x1 x2 x3 x4 s) (M_read x1 x2 x3 x4 t) JF := by
  obtain ⟨⟨R, G⟩, I, M⟩ := F
  refine J.fin ?_ (W_C_read I) (fun _ h => h.1) (V_M_read M) (fun _ h => h.1)
  have H := G.h
  have h6 := H.r6
  obtain ⟨R', h, hh, Hs⟩ := I.1
  have e9 := G.hh Hs
  unfold C_read M_read
  refine w2P within_eq (inP (by decide) (by decide)) (fun _ => w2s ⟨rfl, R, G⟩) (fun c1 => ?_)
  obtain ⟨j, hj, rfl⟩ := in_j (by decide) c1
  refine w2P within_eq (inP (by decide) (by decide)) (fun _ => w2s ⟨rfl, R, G⟩) (fun c2 => ?_)
  refine w2P within_eq (inP (by decide) (by decide)) (fun _ => w2s ⟨rfl, R, G⟩) (fun c3 => ?_)
  obtain ⟨N, hN, rfl⟩ := in_j (by decide) c3
  refine w2l rfl (by omega) (by decide) ?_
  unfold C_copyOfNow
  rw [copyFrom_eq (show dj 53 11 from Or.inr (by decide)), copies_eq (by decide) (by decide) (by omega)]
  refine w2sl (w2sr ?_)
  have ep : ∀ i, i < 52 → pg (cpM t 0 156 52) 0 i = pg t 0 i := fun i hi => by rw [pg0, pg0, cpM_ne (by omega)]
  refine J_rd (by omega) hN G (in_j (by decide) c2) N 0 FU FU _ _ h (fun p hp => ?_) (cpM_m (by decide)).g (HR.e H.copy ep) ((ep 49 (by decide)).trans e9) hh (fun i hi => cpM_at hi) (by omega) (by show N + 1 < 100000; omega) (by show 2 * N + 1 < 100000; omega)
  exact cpH_off p (by omega)
end READ
