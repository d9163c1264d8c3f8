/-! tongues, walls, the outside, told to both -/
section LINE2
variable {s t s' t' s0 : sg} {b : Nat → Int32} {L R : Nat} {x x1 x2 x3 v v1 v2 v3 : Int32}
theorem PL.pre {a c : sg} (k : keepC s a) (o : offLn t c) (f : FM t c) (h : PL b L s0 a c s' t') : PL b L s0 s t s' t' :=
  ⟨h.1, h.2.1, h.2.2.1.trans (k 27 5 (by omega)), f.tr h.2.2.2.1, h.2.2.2.2.1, o.tr h.2.2.2.2.2⟩
theorem XC.fl (X : XC b L s t) (h : ¬ s 27 3 = 0) : ¬ t 10 10 = 0 ∧ s 27 4 = t 10 11 := by
  rcases X with ⟨h3, _⟩ | ⟨h1, ⟨h3, _⟩ | ⟨_, h4⟩⟩
  · exact absurd h3 h
  · exact absurd h3 h
  · exact ⟨h1, h4⟩
theorem XC.fk (X : XC b L s t) (h : ¬ s 27 3 = 0) (f : FK s s') : XC b L s' t := by
  obtain ⟨h1, h4⟩ := X.fl h
  obtain ⟨f1, f2⟩ := f h
  exact Or.inr ⟨h1, Or.inr ⟨by rw [f1]; exact h, f2.trans h4⟩⟩
theorem M_fails_g {c : Int32} (e : t 10 10 = nI 0) : M_fails c t = some (up (up t 10 10 c) 10 11 (t 10 13)) := by
  unfold M_fails
  rw [e, if_pos (by decide)]
  show some (up (up t 10 10 c) 10 11 ((up t 10 10 c) 10 13)) = _
  rw [up_k (by decide)]
theorem rt_50 : M_readTongue_50 x1 t = (M_number (nI 0) (nI 5) t).bind fun v1 => M_readTongue_74 x1 v1.1 (mxV (v1.2 10 6) v1.1) v1.2 := by
  unfold M_readTongue_50
  congr 1
  funext v1
  unfold mxV
  by_cases c : v1.2 10 6 < v1.1
  · rw [if_pos c, if_pos c]
  · rw [if_neg c, if_neg c]
theorem rw_50 : M_readWall_50 t = (M_number (nI 0) (nI 4) t).bind fun v1 => M_readWall_78 v1.1 (mxV (v1.2 10 6) (v1.1 + nI 1)) v1.2 := by
  unfold M_readWall_50
  congr 1
  funext v1
  unfold mxV
  by_cases c : v1.2 10 6 < v1.1 + nI 1
  · rw [if_pos c, if_pos c]
  · rw [if_neg c, if_neg c]
theorem rt_cases : (M_readTongue x1 t = M_readTongue_50 x1 t ∧ ∀ w : Nat, w ≤ 5 → t 10 10 = nI 0 → t 10 14 = nI 2 → t 10 15 = nI w → ¬ 0 < t 12 (18 + w)) ∨ (∃ w : Nat, w ≤ 5 ∧ t 10 10 = nI 0 ∧ t 10 14 = nI 2 ∧ t 10 15 = nI w ∧ 0 < t 12 (18 + w) ∧ M_readTongue x1 t = M_readTongue_50 x1 (up (up t 10 10 (nI 4)) 10 11 (t 10 13))) := by
  unfold M_readTongue
  by_cases h10 : t 10 10 = 0
  · rw [if_pos h10]
    by_cases h14 : t 10 14 = nI 2
    · rw [if_pos h14, inP (lo := nI 0) (hi := nI 5) (by decide) (by decide)]
      by_cases c : ¬ t 10 15 < nI 0 ∧ ¬ nI 5 < t 10 15
      · obtain ⟨w, hw, ew⟩ := in_j (by decide) c
        rw [if_pos c]
        have e : ((midx ((nI 18) + (t 10 15)) 52).bind fun j1 => if 0 < t 12 j1 then (M_fails (nI 4) t).bind fun s1 => M_readTongue_50 x1 s1 else M_readTongue_50 x1 t) = if 0 < t 12 (18 + w) then (M_fails (nI 4) t).bind fun s1 => M_readTongue_50 x1 s1 else M_readTongue_50 x1 t := by
          rw [ew, nI_add, midx_nI (by omega) (by decide)]; rfl
        by_cases d : 0 < t 12 (18 + w)
        · refine Or.inr ⟨w, hw, h10, h14, ew, d, ?_⟩
          refine Eq.trans e ?_
          rw [if_pos d, M_fails_g h10]; rfl
        · refine Or.inl ⟨?_, fun w' hw' _ _ ew' => ?_⟩
          · rw [if_neg d] at e
            exact e
          · rw [ew, nI_eq (by omega) (by omega)] at ew'
            rw [← ew']; exact d
      · refine Or.inl ⟨by rw [if_neg c]; rfl, fun w' hw' _ _ ew' => absurd ⟨?_, ?_⟩ c⟩
        · rw [ew']; exact nI_pos (by omega)
        · rw [ew']; exact fun z => by have := (nI_ltI (by decide) (by omega)).mp z; omega
    · exact Or.inl ⟨by rw [if_neg h14], fun _ _ _ z _ => absurd z h14⟩
  · exact Or.inl ⟨by rw [if_neg h10], fun _ _ z _ _ => absurd z h10⟩
theorem hasT29 {k : Nat} (hk : k ≤ 5) : H_hasTongue 29 (nI k) s = some (if ¬ s 33 k = -1 then nI 1 else nI 0) := by
  unfold H_hasTongue
  rw [midx_nI (by omega) (by decide)]
  show (if s 33 k = -1 then some (nI 0) else some (nI 1)) = _
  by_cases c : s 33 k = -1
  · rw [if_pos c, if_neg (fun w => w c)]
  · rw [if_neg c, if_pos c]
theorem DR.no {k : Nat} (D : DR s t R) (hk : k ≤ 5) : (¬ s 33 k = -1) ↔ 0 < t 12 (18 + k) := by
  obtain ⟨⟨m, hm, e1, e2⟩, _⟩ := D.2.2.1 k (by omega)
  rw [e1, e2]
  have h : m = 0 ∨ m = 1 ∨ m = 2 ∨ m = 3 ∨ m = 4 := by omega
  rcases h with rfl | rfl | rfl | rfl | rfl <;> decide
theorem TX.f4 {q bb rr : Nat} (T : TX t L q bb rr) : TX (up (up t 10 10 (nI 4)) 10 11 v) L q 4 rr := (T.u10 (by decide)).u (by decide)
theorem BS.f4 (B : BS b L s0 s t) : BS b L s0 s (up (up t 10 10 (nI 4)) 10 11 v) := by
  obtain ⟨q, bb, rr, T⟩ := B.2.2.1
  exact B.tt ((offK.u (by decide)).tr (offK.u (by decide))) ⟨_, _, _, T.f4⟩
theorem nz4 : ¬ (up (up t 10 10 (nI 4)) 10 11 v) 10 10 = 0 := by rw [up_k (by decide), up_eq]; decide
theorem off4 : offLn t (up (up t 10 10 (nI 4)) 10 11 v) := (offK.tr (offK.u (by decide)) (offK.u (by decide))).l
theorem K_tongue {kd : Nat} (hkd : kd ≤ 3) (B : BS b L s0 s t) (X : XC b L s t) (D : t 10 10 = nI 0 → DR s t R) : w2 (T_tellTongue (nI kd) s) ((M_readMore (nI kd) t).bind refFin) (PL b L s0 s t) := by
  obtain ⟨q0, bb0, rr, T⟩ := B.2.2.1
  unfold T_tellTongue M_readMore
  rw [if_neg (fun z => by have := (nI_ltI (by decide) (by omega)).mp z; omega), obs]
  rcases rt_cases (x1 := nI kd) (t := t) with ⟨e, hno⟩ | ⟨w, hw, h10, h14, e15, hp, e⟩
  · rw [e, rt_50, Option.bind_assoc]
    refine w2b (K_num (M := 5) (by decide) B X) (fun a c P => ?_)
    obtain ⟨k, hk, ek⟩ := P.2.2.2.2.2.1
    obtain ⟨k', hk', ek'⟩ := P.2.2.2.2.2.2.1
    rw [ek, ek']
    refine w2Pl (hasT29 hk) (fun d => ?_) (fun d => ?_)
    · refine (K_26 (R := R) hkd hk hk' P.2.2.1 P.2.2.2.1 (fun z => ?_)).c (fun a' c' h => h.pre P.1 P.2.1.l P.2.2.2.2.1)
      rcases P.2.2.2.2.2.2.2 with ⟨z1, z2, z3, z4, z5, _⟩ | ⟨_, z2, _⟩
      · refine ⟨?_, (D z2).k P.1 P.2.1, ?_⟩
        · rw [ek, ek', nI_eq (by omega) (by omega)] at z4
          exact z4.symm
        · rw [P.2.1 12 _ (by omega)]
          exact hno k hk z2 z3 (z5.trans ek)
      · exact absurd z z2
    · have hf : ¬ a.2 27 3 = 0 := by
        rcases P.2.2.2.2.2.2.2 with ⟨z1, z2, z3, z4, z5, _⟩ | ⟨z1, _, _⟩
        · refine absurd ?_ (hno k hk z2 z3 (z5.trans ek))
          refine ((D z2).no hk).mp ?_
          rw [← P.1 33 k (by omega)]; exact d
        · exact z1
      refine w2bl (K_fail (by decide) (by decide)) (fun s1 g => ?_)
      refine (K_26 (R := R) hkd hk hk' (P.2.2.1.f g.1) (P.2.2.2.1.fk hf g.2.2.1) (fun z => absurd z (P.2.2.2.1.fl hf).1)).c (fun a' c' h => h.pre (P.1.tr g.1.c) P.2.1.l P.2.2.2.2.1)
  · obtain ⟨a, c, ea, ec, P⟩ := K_num (M := 5) (by decide) B X
    have lv : a.2 27 3 = 0 ∧ t 10 15 = a.1 ∧ a.2 27 7 = t 10 13 := by
      rcases P.2.2.2.2.2.2.2 with ⟨z1, z2, z3, z4, z5, z6⟩ | ⟨_, _, z3⟩
      · exact ⟨z1, z5, z6⟩
      · obtain ⟨k, h1, h2, h3⟩ := z3 h10 h14
        rw [e15, nI_eq (by omega) (by omega)] at h3
        omega
    have ea1 : a.1 = nI w := lv.2.1.symm.trans e15
    have hT : ¬ a.2 33 w = -1 := by
      rw [P.1 33 w (by omega)]
      exact ((D h10).no hw).mpr hp
    rw [ea, e, rt_50, M_num_f T.f4 nz4, Option.bind_assoc]
    refine w2sl (w2sr ?_)
    dsimp only
    rw [ea1]
    refine w2Pl (hasT29 hw) (fun d => absurd hT d) (fun _ => ?_)
    refine w2bl (K_fail (by decide) (by decide)) (fun s1 g => ?_)
    have X1 : XC b L s1 (up (up t 10 10 (nI 4)) 10 11 (t 10 13)) := Or.inr ⟨nz4, Or.inr ⟨g.2.1, by rw [up_eq, g.2.2.2 lv.1]; exact lv.2.2⟩⟩
    have B1 : BS b L s0 s1 (up (up t 10 10 (nI 4)) 10 11 (t 10 13)) := BS.f4 ⟨(P.2.2.1.f g.1).1, (P.2.2.1.f g.1).2.1, B.2.2⟩
    exact (K_26 (R := R) (k' := 0) hkd hw (by decide) B1 X1 (fun z => absurd z nz4)).c (fun a' c' h => h.pre (P.1.tr g.1.c) off4 (fun z => absurd h10 z))
theorem K_27 {k k' : Nat} (hk : k ≤ 4) (hk' : k' ≤ 4) (B : BS b L s0 s t) (X : XC b L s t) (D : t 10 10 = nI 0 → k' = k ∧ DR s t R) : w2 (T_tellWall_27 (nI k) s) ((M_readWall_78 (nI k') (mxV (t 10 6) (nI k' + nI 1)) t).bind refFin) (PL b L s0 s t) := by
  unfold T_tellWall_27 M_readWall_78
  rw [nI_add, nI_add]
  refine w2sl ?_
  rw [Option.bind_assoc]
  refine w2sr ?_
  rw [Option.bind_assoc, up_k (show 4 ≠ 6 by decide)]
  refine w2sr ?_
  rw [Option.bind_assoc]
  have B1 : BS b L s0 (up s 27 10 (s 27 10 ||| (nI 1 <<< (nI k &&& 31)))) (up (up t 10 6 (mxV (t 10 6) (nI (k' + 1)))) 10 4 (t 10 4 ||| (nI 1 <<< (nI k' &&& 31)))) := ((B.u27 (by decide)).t10 (by decide)).t10 (by decide)
  have X1 : XC b L (up s 27 10 (s 27 10 ||| (nI 1 <<< (nI k &&& 31)))) (up (up t 10 6 (mxV (t 10 6) (nI (k' + 1)))) 10 4 (t 10 4 ||| (nI 1 <<< (nI k' &&& 31)))) := ((X.us (by omega)).ut (by omega)).ut (by omega)
  refine w2b (K_num (M := 9) (by decide) B1 X1) (fun a c P1 => ?_)
  rw [Option.bind_assoc]
  refine w2l rfl (by omega) (by decide) (w2r rfl (by omega) (by decide) (w2sl ?_))
  rw [Option.bind_assoc]
  refine w2sr ?_
  rw [obs]
  have B2 : BS b L s0 (up a.2 35 k a.1) (up c.2 12 (36 + k') (c.1 - nI 2)) := (P1.2.2.1.u3 (by decide)).t12 (by omega)
  have X2 : XC b L (up a.2 35 k a.1) (up c.2 12 (36 + k') (c.1 - nI 2)) := (P1.2.2.2.1.us (by omega)).ut (by omega)
  refine w2sr ((K_fin B2 X2).c (fun s5 t5 F => ?_))
  have K : keepC (up (up s 27 10 (s 27 10 ||| (nI 1 <<< (nI k &&& 31)))) 35 k a.1) s5 := P1.1.lift.tr F.1
  have O : offK (up (up (up t 10 6 (mxV (t 10 6) (nI (k' + 1)))) 10 4 (t 10 4 ||| (nI 1 <<< (nI k' &&& 31)))) 12 (36 + k') (c.1 - nI 2)) t5 := P1.2.1.lift.tr F.2.1
  refine ⟨F.2.2.1, F.2.2.2.1, ?_, ?_, fun z => ⟨R, ?_⟩, ?_⟩
  · rw [K 27 5 (by omega), up_p (by decide), up_k (by decide)]
  · exact (FM.u (by omega)).tr ((FM.u (by omega)).tr (P1.2.2.2.2.1.tr ((FM.u (by omega)).tr F.2.2.2.2.1)))
  · have z3 := F.2.2.2.2.2 z
    rw [up_p (by decide)] at z3
    obtain ⟨y3, w3, _⟩ := P1.live z3
    rw [up_k (by decide), up_k (by decide)] at y3
    obtain ⟨ek, D0⟩ := D y3
    subst ek
    rw [← w3] at O
    exact (D0.wall (w := k') (v := a.1) (by omega)).k K O
  · exact (offLn.u (by decide)).tr ((offLn.u (by decide)).tr (P1.2.1.l.tr (offLn.ur.tr F.2.1.l)))
theorem rw_cases : (M_readWall t = M_readWall_50 t ∧ ∀ w : Nat, w ≤ 4 → t 10 10 = nI 0 → t 10 14 = nI 2 → t 10 15 = nI w → ¬ ((t 10 4) >>> (nI w &&& 31)) &&& (nI 1) = nI 1) ∨ (∃ w : Nat, w ≤ 4 ∧ t 10 10 = nI 0 ∧ t 10 14 = nI 2 ∧ t 10 15 = nI w ∧ ((t 10 4) >>> (nI w &&& 31)) &&& (nI 1) = nI 1 ∧ M_readWall t = M_readWall_50 (up (up t 10 10 (nI 4)) 10 11 (t 10 13))) := by
  unfold M_readWall
  by_cases h10 : t 10 10 = 0
  · rw [if_pos h10]
    by_cases h14 : t 10 14 = nI 2
    · rw [if_pos h14, inP (lo := nI 0) (hi := nI 4) (by decide) (by decide)]
      by_cases c : ¬ t 10 15 < nI 0 ∧ ¬ nI 4 < t 10 15
      · obtain ⟨w, hw, ew⟩ := in_j (by decide) c
        rw [if_pos c]
        by_cases d : ((t 10 4) >>> (nI w &&& 31)) &&& (nI 1) = nI 1
        · refine Or.inr ⟨w, hw, h10, h14, ew, d, ?_⟩
          show (if ((t 10 4) >>> ((t 10 15) &&& 31)) &&& (nI 1) = nI 1 then (M_fails (nI 4) t).bind (fun s1 => M_readWall_50 s1) else M_readWall_50 t) = _
          rw [ew, if_pos d, M_fails_g h10]; rfl
        · refine Or.inl ⟨?_, fun w' hw' _ _ ew' => ?_⟩
          · show (if ((t 10 4) >>> ((t 10 15) &&& 31)) &&& (nI 1) = nI 1 then (M_fails (nI 4) t).bind (fun s1 => M_readWall_50 s1) else M_readWall_50 t) = _
            rw [ew, if_neg d]
          · rw [ew, nI_eq (by omega) (by omega)] at ew'
            rw [← ew']; exact d
      · refine Or.inl ⟨by rw [if_neg c]; rfl, fun w' hw' _ _ ew' => absurd ⟨?_, ?_⟩ c⟩
        · rw [ew']; exact nI_pos (by omega)
        · rw [ew']; exact fun z => by have := (nI_ltI (by decide) (by omega)).mp z; omega
    · exact Or.inl ⟨by rw [if_neg h14], fun _ _ _ z _ => absurd z h14⟩
  · exact Or.inl ⟨by rw [if_neg h10], fun _ _ z _ _ => absurd z h10⟩
theorem DR.ms (D : DR s t R) : s 27 10 = t 10 4 := by
  obtain ⟨m, hz, _, _, m3, m4, _⟩ := D.2.2.2.2.2.2.2.2.1
  rw [m3, m4]
theorem K_wall (B : BS b L s0 s t) (X : XC b L s t) (D : t 10 10 = nI 0 → DR s t R) : w2 (T_tellWall s) ((M_readMore (nI 5) t).bind refFin) (PL b L s0 s t) := by
  obtain ⟨q0, bb0, rr, T⟩ := B.2.2.1
  unfold T_tellWall M_readMore
  rw [if_pos (show nI 3 < nI 5 by decide), if_neg (show ¬ nI 5 = nI 4 by decide), if_pos (show nI 5 = nI 5 from rfl), obs]
  rcases rw_cases (t := t) with ⟨e, hno⟩ | ⟨w, hw, h10, h14, e15, hp, e⟩
  · rw [e, rw_50, Option.bind_assoc]
    refine w2b (K_num (M := 4) (by decide) B X) (fun a c P => ?_)
    obtain ⟨k, hk, ek⟩ := P.2.2.2.2.2.1
    obtain ⟨k', hk', ek'⟩ := P.2.2.2.2.2.2.1
    rw [ek, ek']
    refine w2il (fun d => ?_) (fun d => ?_)
    · have hf : ¬ a.2 27 3 = 0 := by
        rcases P.2.2.2.2.2.2.2 with ⟨z1, z2, z3, z4, z5, _⟩ | ⟨z1, _, _⟩
        · refine absurd ?_ (hno k hk z2 z3 (z5.trans ek))
          rw [← (D z2).ms, ← P.1 27 10 (by omega)]; exact d
        · exact z1
      refine w2bl (K_fail (by decide) (by decide)) (fun s1 g => ?_)
      refine (K_27 (R := R) hk hk' (P.2.2.1.f g.1) (P.2.2.2.1.fk hf g.2.2.1) (fun z => absurd z (P.2.2.2.1.fl hf).1)).c (fun a' c' h => h.pre (P.1.tr g.1.c) P.2.1.l P.2.2.2.2.1)
    · refine (K_27 (R := R) hk hk' P.2.2.1 P.2.2.2.1 (fun z => ?_)).c (fun a' c' h => h.pre P.1 P.2.1.l P.2.2.2.2.1)
      obtain ⟨z2, z4, _⟩ := P.live z
      refine ⟨?_, (D z2).k P.1 P.2.1⟩
      rw [ek, ek', nI_eq (by omega) (by omega)] at z4
      exact z4.symm
  · obtain ⟨a, c, ea, ec, P⟩ := K_num (M := 4) (by decide) B X
    have lv : a.2 27 3 = 0 ∧ t 10 15 = a.1 ∧ a.2 27 7 = t 10 13 := by
      rcases P.2.2.2.2.2.2.2 with ⟨z1, z2, z3, z4, z5, z6⟩ | ⟨_, _, z3⟩
      · exact ⟨z1, z5, z6⟩
      · obtain ⟨k, h1, h2, h3⟩ := z3 h10 h14
        rw [e15, nI_eq (by omega) (by omega)] at h3
        omega
    have ea1 : a.1 = nI w := lv.2.1.symm.trans e15
    rw [ea, e, rw_50, M_num_f T.f4 nz4, Option.bind_assoc]
    refine w2sl (w2sr ?_)
    dsimp only
    rw [ea1, P.1 27 10 (by omega), (D h10).ms, if_pos hp]
    refine w2bl (K_fail (by decide) (by decide)) (fun s1 g => ?_)
    have X1 : XC b L s1 (up (up t 10 10 (nI 4)) 10 11 (t 10 13)) := Or.inr ⟨nz4, Or.inr ⟨g.2.1, by rw [up_eq, g.2.2.2 lv.1]; exact lv.2.2⟩⟩
    have B1 : BS b L s0 s1 (up (up t 10 10 (nI 4)) 10 11 (t 10 13)) := BS.f4 ⟨(P.2.2.1.f g.1).1, (P.2.2.1.f g.1).2.1, B.2.2⟩
    exact (K_27 (R := R) (k' := 0) hw (by decide) B1 X1 (fun z => absurd z nz4)).c (fun a' c' h => h.pre (P.1.tr g.1.c) off4 (fun z => absurd h10 z))
end LINE2
