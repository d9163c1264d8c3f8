/-! a line, told to both -/
section RLINE
variable {s t s' t' s0 : sg} {b : Nat → Int32} {L R : Nat} {x x1 x2 x3 v v1 v2 v3 y : Int32}
def ref79 (x1 : Int32) (t : sg) : Option sg := (M_step t).bind fun s2 => if 0 < s2 10 10 then some s2 else (M_readMore x1 s2).bind refFin
theorem r79 (hy : y = nI 0 ∨ y = nI 1) : M_readLine_79 x1 y t = ref79 x1 (up t 10 5 y) := by
  unfold M_readLine_79 ref79 refFin
  have h : y = 0 ∨ y = 1 := hy
  rw [if_pos h]
  rfl
theorem K_79 {f : sg → Option sg} (B : BS b L s0 s t) (X : XA b L s t) (J : ∀ t2, BS b L s0 s t2 → XC b L s t2 → offK t t2 → (t2 10 10 = nI 0 → t 10 10 = nI 0) → w2 (f s) ((M_readMore x1 t2).bind refFin) (PL b L s0 s t2)) : w2 (f s) (ref79 x1 t) (PL b L s0 s t) := by
  unfold ref79
  refine w2br (R_stepC B X) (fun t2 g => ?_)
  have h := J t2 g.2.1 g.2.2.1 g.1 g.2.2.2.2
  obtain ⟨q, bb, rr, T⟩ := g.2.1.2.2.1
  have hb := T.b2
  by_cases c : t2 10 10 = 0
  · rw [if_neg (by rw [c]; decide)]
    exact h.c (fun a c' p => p.pre keepC.rf g.1.l g.2.2.2.1)
  · have c1 : 0 < t2 10 10 := by
      rw [T.b] at c ⊢
      have : 0 < bb := Nat.pos_of_ne_zero (fun w => c (by rw [w]; rfl))
      exact (nI_ltI (a := 0) (by decide) (by omega)).mpr this
    rw [if_pos c1]
    obtain ⟨s1, t1, e1, e2, P⟩ := h
    obtain ⟨f1, f2⟩ := P.2.2.2.1 c
    refine ⟨s1, t2, e1, rfl, ⟨P.1.1, P.1.2.1, g.2.1.2.2⟩, ?_, P.2.2.1, g.2.2.2.1, fun z => absurd z c, g.1.l⟩
    have c' : ¬ t1 10 10 = 0 := by rw [f1]; exact c
    rcases P.2.1 with ⟨_, p, _, _, _, C⟩ | ⟨_, h2⟩
    · exact absurd C.1 c'
    · refine Or.inr ⟨c, ?_⟩
      rw [← f2]; exact h2
theorem K_bad {c : Nat} (hc : 0 < c) (hc6 : c ≤ 6) (B : BS b L s0 s t) (h3 : s 27 3 = 0) (X : XA b L s t) : w2 ((T_fail (nI c) (s 27 7) s).bind fun s4 => some s4) ((M_fails (nI c) t).bind fun s2 => some s2) (PL b L s0 s t) := by
  obtain ⟨q, bb, rr, T⟩ := B.2.2.1
  rcases X with ⟨_, p, hp, nb, C, e6, e7, e8⟩ | ⟨z, _⟩
  · rw [M_fails_0 C.1 C.2.1]
    refine w2bl (K_fail hc (by omega)) (fun s2 g => w2sr (w2s ?_))
    have o : offK t (up (up t 10 10 (nI c)) 10 11 (nI (stV b L p))) := (offK.u (by decide)).tr (offK.u (by decide))
    have T2 : TX (up (up t 10 10 (nI c)) 10 11 (nI (stV b L p))) L q c rr := (T.u10 hc6).u (by decide)
    have f1 : ¬ (up (up t 10 10 (nI c)) 10 11 (nI (stV b L p))) 10 10 = 0 := by rw [up_k (by decide), up_eq]; exact nI_ne0 hc (by omega)
    exact ⟨(B.f g.1).tt o ⟨_, _, _, T2⟩, Or.inr ⟨f1, Or.inr ⟨g.2.1, by rw [up_eq, g.2.2.2 h3]; exact e7⟩⟩, g.1 27 5 (by omega), fun w => absurd C.1 w, fun w => absurd w f1, o.l⟩
  · exact absurd h3 z
theorem flag_r (D : DR s t R) (hx : ¬ x1 = nI 6) : M_readLine_60 x1 t = ref79 x1 t := by
  unfold M_readLine_60 M_readLine_74
  rcases D.2.2.2.2.2.2.2.2.2.2 with h | h
  · rw [h, if_pos (by decide), if_neg hx, r79 (Or.inl rfl), up_self h]
  · rw [h, if_neg (by decide), r79 (Or.inr rfl), up_self h]
theorem K_line (B : BS b L s0 s t) (h3 : s 27 3 = 0) (X : XA b L s t) (D : DR s t R) (A : LT t) : w2 (T_tellLine s) (M_readLine t) (PL b L s0 s t) := by
  have X' := X
  obtain ⟨q, bb, rr, T⟩ := B.2.2.1
  rcases X with ⟨_, p, hp, nb, C, e6, e7, e8⟩ | ⟨z, _⟩
  · have hE := tkE_le (b := b) hp
    have T' : TX t L (tkE b L p) 0 rr := T.at hE.2 C.2.2.1 C.1
    have unknown : M_nameHere t = some (-4) → w2 (T_tellLine_17 (nI 13) s) (M_readLine t) (PL b L s0 s t) := fun e => by
      unfold T_tellLine_17 M_readLine
      rw [if_neg (by decide), if_neg (by decide), if_neg (by decide), if_pos (by decide), e]
      refine w2sr ?_
      rw [inP (lo := nI 0) (hi := nI 6) (by decide) (by decide), if_neg (by decide)]
      exact w2sr (K_bad (by decide) (by decide) B h3 X')
    unfold T_tellLine
    rw [e6]
    by_cases c1 : tkS b L p = nI 1
    · rw [if_pos c1, K_lineByName B.l B.2.1 e7 e8 hE.1 hE.2]
      refine w2sl ?_
      have en : M_nameHere t = some (if fnW b (stV b L p) (tkE b L p) 7 0 = 7 then -4 else nI (fnW b (stV b L p) (tkE b L p) 7 0)) := R_2 T' B.2.2.2 A C.2.1 hE.1 (C.2.2.2.1.trans c1) 7 0 FU (by decide) (by decide)
      have hle := fnW_le (b := b) (st := stV b L p) (e := tkE b L p) 7 0
      generalize fnW b (stV b L p) (tkE b L p) 7 0 = w at *
      by_cases c7 : w = 7
      · subst c7
        exact unknown (by rw [en, if_pos rfl])
      · rw [if_neg c7] at en
        have rd : M_readLine t = if nI w = nI 4 then (if t 10 3 = nI 6 then (M_fails (nI 5) t).bind fun s1 => M_readLine_42 (nI w) s1 else M_readLine_42 (nI w) t) else M_readLine_42 (nI w) t := by
          unfold M_readLine
          rw [en]
          show ((M_in (nI w).toInt64 (0 : Int64) (6 : Int64) t).bind _) = _
          rw [inP (lo := nI 0) (hi := nI 6) (by decide) (by decide), if_pos ⟨nI_pos (by omega), fun z => by have := (nI_ltI (by decide) (by omega)).mp z; omega⟩]
          rfl
        rw [rd]
        have hw : w < 4 ∨ w = 4 ∨ w = 5 ∨ w = 6 := by omega
        rcases hw with hw | rfl | rfl | rfl
        · rw [if_neg (i32_ne (by omega) (by omega) (by decide))]
          have e42 : M_readLine_42 (nI w) t = ref79 (nI w) t := by
            unfold M_readLine_42
            rw [if_neg (i32_ne (by omega) (by omega) (by decide))]
            exact flag_r D (i32_ne (by omega) (by omega) (by decide))
          have e17 : T_tellLine_17 (clC w) s = T_tellTongue (nI w) s := by
            unfold T_tellLine_17 clC
            rw [if_pos hw, if_neg (i32_ne (by omega) (by omega) (by decide)), if_neg (i32_ne (by omega) (by omega) (by decide)), if_neg (i32_ne (by omega) (by omega) (by decide)), if_neg (i32_ne (by omega) (by omega) (by decide)), obs]
          rw [e42, e17]
          exact K_79 (f := T_tellTongue (nI w)) B X' (fun t2 B2 X2 o2 _ => K_tongue (R := R) (by omega) B2 X2 (fun _ => D.k keepC.rf o2))
        · have e17 : T_tellLine_17 (clC 4) s = T_tellRoom s := by
            rw [show clC 4 = nI 10 by decide]
            unfold T_tellLine_17
            rw [if_pos rfl, obs]
          rw [e17, if_pos rfl, D.1.2.2]
          have hR := D.1.2.1
          by_cases c6 : R = 6
          · rw [if_pos (by rw [c6])]
            have eT : T_tellRoom s = (T_fail (nI 5) (s 27 7) s).bind fun s6 => some s6 := by
              unfold T_tellRoom
              rw [D.1.1, c6, if_neg (by decide)]
            have eM : ((M_fails (nI 5) t).bind fun s1 => M_readLine_42 (nI 4) s1) = (M_fails (nI 5) t).bind fun s2 => some s2 := by
              rw [M_fails_0 C.1 C.2.1]
              show M_readLine_42 (nI 4) (up (up t 10 10 (nI 5)) 10 11 (nI (stV b L p))) = some (up (up t 10 10 (nI 5)) 10 11 (nI (stV b L p)))
              have D5 : DR s (up (up t 10 10 (nI 5)) 10 11 (nI (stV b L p))) R := D.k keepC.rf ((offK.u (by decide)).tr (offK.u (by decide)))
              have nz : ¬ (up (up t 10 10 (nI 5)) 10 11 (nI (stV b L p))) 10 10 = 0 := by rw [up_k (by decide), up_eq]; decide
              have T5 : TX (up (up t 10 10 (nI 5)) 10 11 (nI (stV b L p))) L q 5 rr := (T.u10 (by decide)).u (by decide)
              unfold M_readLine_42
              rw [if_neg (by decide), flag_r D5 (by decide)]
              unfold ref79
              rw [R_step1 T5 nz]
              show (if 0 < (up (up t 10 10 (nI 5)) 10 11 (nI (stV b L p))) 10 10 then some (up (up t 10 10 (nI 5)) 10 11 (nI (stV b L p))) else (M_readMore (nI 4) (up (up t 10 10 (nI 5)) 10 11 (nI (stV b L p)))).bind refFin) = _
              rw [if_pos (by rw [T5.b]; decide)]
            rw [eT, eM]
            exact K_bad (by decide) (by decide) B h3 X'
          · rw [if_neg (i32_ne c6 (by omega) (by decide))]
            have e42 : M_readLine_42 (nI 4) t = ref79 (nI 4) t := by
              unfold M_readLine_42
              rw [if_neg (by decide)]
              exact flag_r D (by decide)
            rw [e42]
            exact K_79 (f := T_tellRoom) B X' (fun t2 B2 X2 o2 _ => K_room (R := R) B2 X2 D.1.1 (by omega) ((o2 10 3 (by omega)).trans D.1.2.2) (fun _ => D.k keepC.rf o2))
        · have e17 : T_tellLine_17 (clC 5) s = T_tellWall s := by
            rw [show clC 5 = nI 11 by decide]
            unfold T_tellLine_17
            rw [if_neg (by decide), if_pos rfl, obs]
          have e42 : M_readLine_42 (nI 5) t = ref79 (nI 5) t := by
            unfold M_readLine_42
            rw [if_neg (by decide)]
            exact flag_r D (by decide)
          rw [e17, if_neg (by decide), e42]
          exact K_79 (f := T_tellWall) B X' (fun t2 B2 X2 o2 _ => K_wall (R := R) B2 X2 (fun _ => D.k keepC.rf o2))
        · have e17 : T_tellLine_17 (clC 6) s = T_tellOut s := by
            rw [show clC 6 = nI 12 by decide]
            unfold T_tellLine_17
            rw [if_neg (by decide), if_neg (by decide), if_pos rfl, obs]
          rw [e17, if_neg (by decide)]
          obtain ⟨f1, f2⟩ := D.2.2.2.2.2.2.2.2.2
          unfold T_tellOut M_readLine_42
          rw [if_pos rfl, f1]
          have e60 : ∀ t1 : sg, (t1 10 5 = nI 0 ∨ t1 10 5 = nI 1) → M_readLine_60 (nI 6) t1 = ref79 (nI 6) (up t1 10 5 (nI 1)) := fun t1 hh => by
            unfold M_readLine_60 M_readLine_74
            rcases hh with hh | hh
            · rw [hh, if_pos (by decide), if_pos rfl, r79 (Or.inr rfl)]
            · rw [hh, if_neg (by decide), r79 (Or.inr rfl)]
          rcases f2 with f2 | f2
          · rw [f2, if_pos (by decide), if_pos (by decide), e60 t (Or.inl f2)]
            refine (K_79 (f := T_tellOut_16) (B.t10 (k := 5) (v := nI 1) (by decide)) (X'.ut (by omega)) (fun t2 B2 X2 o2 _ => K_16 (R := R) B2 X2 (fun _ => D.out1.k keepC.rf o2))).c (fun a c h => h.pre keepC.rf (offLn.u (by decide)) (FM.u (by omega)))
          · rw [f2, if_neg (by decide), if_neg (by decide), M_fails_0 C.1 C.2.1]
            refine w2sr ?_
            have o4 : offK t (up (up t 10 10 (nI 4)) 10 11 (nI (stV b L p))) := (offK.u (by decide)).tr (offK.u (by decide))
            rw [e60 _ (Or.inr (by rw [o4 10 5 (by omega)]; exact f2))]
            refine w2bl (K_fail (by decide) (by decide)) (fun s1 g => ?_)
            have B1 : BS b L s0 s1 (up (up (up t 10 10 (nI 4)) 10 11 (nI (stV b L p))) 10 5 (nI 1)) := (BS.f4 (B.f g.1)).t10 (by decide)
            have X1 : XA b L s1 (up (up (up t 10 10 (nI 4)) 10 11 (nI (stV b L p))) 10 5 (nI 1)) := XA.ut (Or.inr ⟨g.2.1, nz4, by rw [up_eq, g.2.2.2 h3]; exact e7⟩) (by omega)
            refine (K_79 (f := T_tellOut_16) B1 X1 (fun t2 B2 X2 o2 z2 => K_16 (R := R) B2 X2 (fun z => ?_))).c (fun a c h => h.pre g.1.c (off4.tr (offLn.u (by decide))) (fun w => absurd C.1 w))
            have := z2 z
            rw [up_k (by decide)] at this
            exact absurd this nz4
    · rw [if_neg c1]
      refine unknown ?_
      unfold M_nameHere
      show M_nameHere_2 t (99999 + 1) (nI 0) = _
      rw [M_nameHere_2, if_pos (by decide), C.2.2.2.1, if_neg c1]
  · exact absurd h3 z
end RLINE
