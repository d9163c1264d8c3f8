/-! numbers cut to a byte, to a short -/
theorem sx8 (x : Int32) : (x <<< (nI 24 &&& 31)) >>> (nI 24 &&& 31) = x.toInt8.toInt32 := by
  apply Int32.toInt_inj.mp
  rw [pk_shr _ _ 24 (by decide), Int8.toInt_toInt32, Int32.toInt_toInt8]
  have h := pk_shl x (nI 24 &&& 31) 24 (by decide)
  have e : (x <<< (nI 24 &&& 31)).toInt = (x <<< (nI 24 &&& 31)).toBitVec.toInt := rfl
  have e2 : x.toInt = x.toBitVec.toInt := rfl
  rw [e, BitVec.toInt_eq_toNat_cond, h, e2, BitVec.toInt_eq_toNat_cond, Int.shiftRight_eq_div_pow, Int.bmod_def]
  have hx := x.toBitVec.isLt
  split <;> split <;> split <;> omega
theorem sx16 (x : Int32) : (x <<< (nI 16 &&& 31)) >>> (nI 16 &&& 31) = x.toInt16.toInt32 := by
  apply Int32.toInt_inj.mp
  rw [pk_shr _ _ 16 (by decide), Int16.toInt_toInt32, Int32.toInt_toInt16]
  have h := pk_shl x (nI 16 &&& 31) 16 (by decide)
  have e : (x <<< (nI 16 &&& 31)).toInt = (x <<< (nI 16 &&& 31)).toBitVec.toInt := rfl
  have e2 : x.toInt = x.toBitVec.toInt := rfl
  rw [e, BitVec.toInt_eq_toNat_cond, h, e2, BitVec.toInt_eq_toNat_cond, Int.shiftRight_eq_div_pow, Int.bmod_def]
  have hx := x.toBitVec.isLt
  split <;> split <;> split <;> omega
section PLAIN
variable {s t : sg} {b R : Nat} {g : Nat → Int32} {x x1 x2 x3 x4 : Int32}
theorem lane_P (n : Nat) (hn : n ≤ 40) : (¬ nI n - nI 1 < x2) ↔ x2 < nI n := by
  rw [Int32.lt_iff_toInt_lt, Int32.lt_iff_toInt_lt, pk_sub_toInt (by omega) (by decide), nI_toInt (by omega)]
  omega
theorem J_lay (F : RF s t) : w2 (C_lay x1 x2 x3 s) (M_lay x1 x2 x3 t) JF := by
  obtain ⟨⟨R, G⟩, I, M⟩ := F
  refine J.fin ?_ (W_C_lay I) (fun _ h => h.1) (V_M_lay M) (fun _ h => h.1)
  have H := G.h
  unfold C_lay M_lay
  refine w2P within_eq (inP (by decide) (by decide)) (fun _ => w2s ⟨rfl, R, G⟩) (fun c1 => ?_)
  obtain ⟨j, hj, rfl⟩ := in_j (by decide) c1
  refine w2l rfl (by omega) (by decide) (w2r rfl (by omega) (by decide) ?_)
  obtain ⟨z1, n, n1, n2, n3, n4⟩ := G.sh j (by omega)
  unfold S_faultAt S_isThere
  rcases z1 with ⟨q1, q2⟩ | ⟨l, hl, q1, q2⟩
  · rw [q1, q2, if_pos rfl, if_pos rfl]
    exact w2s ⟨show (-10 : Int32) - nI 1 = -11 by decide, R, G⟩
  · have l1 : ¬ nI l = -1 := by
      have hl' : l = 0 ∨ l = 1 ∨ l = 2 := by omega
      rcases hl' with rfl | rfl | rfl <;> decide
    have l4 : ¬ nI l = -4 := by
      have hl' : l = 0 ∨ l = 1 ∨ l = 2 := by omega
      rcases hl' with rfl | rfl | rfl <;> decide
    rw [q1, q2, if_neg l1, if_neg l4]
    refine w2r rfl (by omega) (by decide) ?_
    show w2 ((if nI 1 = 0 then some (nI 1) else if nI l = nI l then if x2 < 0 then some (nI 2) else if x2 < s (133 + 2 * j) 1 then some (nI 0) else some (nI 2) else some (nI 3)).bind _) _ JQ
    rw [if_neg (show ¬ nI 1 = 0 by decide), if_pos rfl, n2, n3]
    have hP : M_in x2.toInt64 (0 : Int64) ((nI n - nI 1).toInt64) t = some (if ¬ x2 < nI 0 ∧ ¬ nI n - nI 1 < x2 then nI 1 else nI 0) := inP (by decide) rfl
    by_cases c : ¬ x2 < nI 0 ∧ ¬ nI n - nI 1 < x2
    · rw [hP, if_pos c, if_neg (show ¬ x2 < 0 from c.1), if_pos ((lane_P n n1).mp c.2)]
      obtain ⟨i, hi, rfl⟩ := nI_of c.1
      have hin : i < n := (nI_ltI hi (by omega)).mp ((lane_P n n1).mp c.2)
      show w2 ((S_put (133 + 2 * j) (nI i) x3 s).bind fun s1 => some (nI 1, s1)) ((midx (nI j) 4).bind _) JQ
      refine w2r rfl (by omega) (by decide) ?_
      rw [q2]
      have fin : ∀ y y' : Int32, y = y' → w2 ((S_put_31 (133 + 2 * j) y (nI i) s).bind fun s1 => some (nI 1, s1)) (M_lay_99 y' (nI 40 * nI j + nI i) t) JQ := fun y y' e => by
        subst e
        unfold M_lay_99
        rw [pk_mul, nI_add]
        refine w2r rfl (by omega) (by decide) (w2sr ?_)
        have e31 : S_put_31 (133 + 2 * j) y (nI i) s = some (up s (133 + 2 * j + 1) i y) := by
          unfold S_put_31
          rw [midx_nI (by omega) (by decide)]; rfl
        rw [e31]
        refine w2sl (w2s ⟨rfl, R, ?_⟩)
        have oS : ∀ p, p ≠ 133 + 2 * j + 1 → (up s (133 + 2 * j + 1) i y) p = s p := fun p hp => up_off hp
        have oT : ∀ q, q ≠ 22 → (up t 22 (40 * j + i) y) q = t q := fun q h => up_off h
        dsimp only
        refine ⟨?_, ?_, ?_, ?_, ?_, fun k hk => ?_, ?_, ?_⟩
        · rw [oT 10 (by decide)]; exact G.r
        · rw [pgE (oT 11 (by decide))]
          exact H.off (fun p q1 q2 => oS p (by omega))
        · exact G.kp.k (oS 20 (by omega)) (fun p _ _ => oS p (by omega)) (oT 19 (by decide)) (fun k _ _ => by rw [oT 11 (by decide)])
        · exact G.tp.k (by rw [oS 27 (by omega)]) (oS 28 (by omega)) (by rw [oT 10 (by decide)]) (oT 13 (by decide))
        · exact G.fe.k (oS 23 (by omega)) (oS 24 (by omega)) (oS 25 (by omega)) (oS 26 (by omega)) (by rw [oT 10 (by decide)]) (oT 17 (by decide))
        · obtain ⟨y1, m, m1, m2, m3, m4⟩ := G.sh k hk
          rw [oS _ (by omega), oT 20 (by decide), oT 21 (by decide)]
          refine ⟨y1, m, m1, m2, m3, fun a ha => ?_⟩
          by_cases z : k = j
          · subst z
            by_cases z2 : a = i
            · rw [z2, up_eq, up_eq]
            · rw [up_k z2, up_k (by omega)]; exact m4 a ha
          · rw [oS _ (by omega), up_k (by omega)]; exact m4 a ha
        · rw [oS 10 (by omega), oT 10 (by decide)]; exact G.tn
        · exact G.lt.k (oT 14 (by decide)) (oT 15 (by decide))
      unfold S_put
      rw [q1]
      have hl' : l = 0 ∨ l = 1 ∨ l = 2 := by omega
      rcases hl' with rfl | rfl | rfl
      · rw [if_pos (by decide), if_pos (by decide)]
        exact fin _ _ (sx8 x3).symm
      · rw [if_neg (by decide), if_pos (by decide), if_neg (by decide)]
        refine w2r rfl (by omega) (by decide) ?_
        rw [q2, if_pos (by decide)]
        exact fin _ _ (sx16 x3).symm
      · rw [if_neg (by decide), if_neg (by decide), if_neg (by decide)]
        refine w2r rfl (by omega) (by decide) ?_
        rw [q2, if_neg (by decide)]
        exact fin _ _ rfl
    · rw [hP, if_neg c]
      have e2 : (if x2 < 0 then some (nI 2) else if x2 < nI n then some (nI 0) else some (nI 2)) = some (nI 2) := by
        by_cases d : x2 < 0
        · rw [if_pos d]
        · rw [if_neg d, if_neg (fun w => c ⟨d, (lane_P n n1).mpr w⟩)]
      rw [e2]
      exact w2s ⟨show (-10 : Int32) - nI 2 = -12 by decide, R, G⟩
theorem by_nar : ∀ c : Nat, c < 128 → vp_nar .byte (nI c).toInt8.toInt32 = nI c := by decide +kernel
theorem J_feed (F : RF s t) : w2 (C_feed x1 s) (M_feed x1 t) JF := by
  obtain ⟨⟨R, G⟩, I, M⟩ := F
  have H := G.h
  obtain ⟨L, hL, e1, e2, e3⟩ := G.tp
  refine J.fin ?_ (W_C_feed I hL e1) (fun _ h => h.1) (V_M_feed M) (fun _ h => h.1)
  unfold C_feed M_feed
  refine w2P within_eq (inP (by decide) (by decide)) (fun _ => w2s ⟨rfl, R, G⟩) (fun c1 => ?_)
  obtain ⟨c, hc, rfl⟩ := in_j (by decide) c1
  unfold T_put
  rw [e1, e2]
  by_cases z : L = 160
  · subst z
    rw [if_neg (by decide), if_pos rfl]
    refine w2sl ?_
    dsimp only
    rw [if_pos (by decide)]
    exact w2s ⟨rfl, R, G⟩
  · rw [if_pos ((nI_ltI (by omega) (by decide)).mpr (by omega)), if_neg (i32_ne z (by omega) (by decide)), midx_nI (by omega) (by decide), by_nar c (by omega)]
    have k1 : (up s 28 L (nI c)) 27 1 = nI L := by rw [up_p (by decide)]; exact e1
    have k2 : (up t 13 L (nI c)) 10 8 = nI L := by rw [up_p (by decide)]; exact e2
    show w2 ((some (nI 1, up (up s 28 L (nI c)) 27 1 ((up s 28 L (nI c)) 27 1 + nI 1))).bind _) (some ((up (up t 13 L (nI c)) 10 8 ((up t 13 L (nI c)) 10 8 + nI 1)) 10 8, up (up t 13 L (nI c)) 10 8 ((up t 13 L (nI c)) 10 8 + nI 1))) JQ
    rw [k1, k2, nI_add, up_eq]
    refine w2sl ?_
    dsimp only
    rw [if_neg (by decide), up_eq]
    refine w2s ⟨rfl, R, ?_⟩
    have oS : ∀ p, p ≠ 27 → p ≠ 28 → (up (up s 28 L (nI c)) 27 1 (nI (L + 1))) p = s p := fun p h1 h2 => by rw [up_off h1, up_off h2]
    have oT : ∀ q, q ≠ 10 → q ≠ 13 → (up (up t 13 L (nI c)) 10 8 (nI (L + 1))) q = t q := fun q h1 h2 => by rw [up_off h1, up_off h2]
    have oO : ∀ k, k ≠ 8 → (up (up t 13 L (nI c)) 10 8 (nI (L + 1))) 10 k = t 10 k := fun k hk => by rw [up_k hk, up_p (by decide)]
    dsimp only
    refine ⟨(oO 1 (by decide)).trans G.r, ?_, ?_, ?_, ?_, ?_, ?_, ?_⟩
    · rw [pgE (oT 11 (by decide) (by decide))]
      exact H.off (fun p q1 q2 => oS p (by omega) (by omega))
    · exact G.kp.k (oS 20 (by omega) (by omega)) (fun p _ _ => oS p (by omega) (by omega)) (oT 19 (by decide) (by decide)) (fun k _ _ => by rw [oT 11 (by decide) (by decide)])
    · refine ⟨L + 1, by omega, up_eq, up_eq, fun i hi => ?_⟩
      rw [up_p (show 28 ≠ 27 by decide), up_p (show 13 ≠ 10 by decide)]
      by_cases w : i = L
      · subst w
        exact ⟨c, by omega, up_eq, up_eq⟩
      · rw [up_k w, up_k w]; exact e3 i (by omega)
    · exact G.fe.k (oS 23 (by omega) (by omega)) (oS 24 (by omega) (by omega)) (oS 25 (by omega) (by omega)) (oS 26 (by omega) (by omega)) (oO 22 (by decide)) (oT 17 (by decide) (by decide))
    · exact G.sh.k (fun p _ _ => oS p (by omega) (by omega)) (oT 20 (by decide) (by decide)) (oT 21 (by decide) (by decide)) (oT 22 (by decide) (by decide))
    · rw [oS 10 (by omega) (by omega), oO 28 (by decide)]; exact G.tn
    · exact G.lt.k (oT 14 (by decide) (by decide)) (oT 15 (by decide) (by decide))
theorem J_end (F : RF s t) : w2 (C_end x1 s) (M_end x1 t) JF := by
  obtain ⟨⟨R, G⟩, I, M⟩ := F
  have H := G.h
  obtain ⟨L, hL, e1, e2, e3⟩ := G.tp
  refine J.fin ?_ (W_C_end I hL e1) (fun _ h => h.1) (V_M_end M) (fun _ h => h.1)
  unfold C_end M_end
  rw [e1, e2]
  refine w2P within_eq (inP (by decide) rfl) (fun _ => w2s ⟨rfl, R, G⟩) (fun c1 => ?_)
  obtain ⟨j, hj, rfl⟩ := in_j (by omega) c1
  refine w2sl (w2sr (w2s ⟨rfl, R, ?_⟩))
  have oS : ∀ p, p ≠ 27 → (up s 27 1 (nI j)) p = s p := fun p h1 => up_off h1
  have oT : ∀ q, q ≠ 10 → (up t 10 8 (nI j)) q = t q := fun q h1 => up_off h1
  have oO : ∀ k, k ≠ 8 → (up t 10 8 (nI j)) 10 k = t 10 k := fun k hk => up_k hk
  dsimp only
  refine ⟨(oO 1 (by decide)).trans G.r, ?_, ?_, ?_, ?_, ?_, ?_, ?_⟩
  · rw [pgE (oT 11 (by decide))]
    exact H.off (fun p q1 q2 => oS p (by omega))
  · exact G.kp.k (oS 20 (by omega)) (fun p _ _ => oS p (by omega)) (oT 19 (by decide)) (fun k _ _ => by rw [oT 11 (by decide)])
  · refine ⟨j, by omega, up_eq, up_eq, fun i hi => ?_⟩
    rw [up_p (by decide), up_p (by decide)]
    exact e3 i (by omega)
  · exact G.fe.k (oS 23 (by omega)) (oS 24 (by omega)) (oS 25 (by omega)) (oS 26 (by omega)) (oO 22 (by decide)) (oT 17 (by decide))
  · exact G.sh.k (fun p _ _ => oS p (by omega)) (oT 20 (by decide)) (oT 21 (by decide)) (oT 22 (by decide))
  · rw [oS 10 (by omega), oO 28 (by decide)]; exact G.tn
  · exact G.lt.k (oT 14 (by decide)) (oT 15 (by decide))
end PLAIN
