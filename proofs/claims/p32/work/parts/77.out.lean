/-! the outside, told to both -/
section OUT
variable {s t s' t' s0 : sg} {b : Nat → Int32} {L R : Nat} {x x1 x2 x3 v v1 v2 v3 y : Int32}
theorem PL.pre5 {a c : sg} (k : a 27 5 = s 27 5) (o : offLn t c) (f : FM t c) (h : PL b L s0 a c s' t') : PL b L s0 s t s' t' :=
  ⟨h.1, h.2.1, h.2.2.1.trans k, f.tr h.2.2.2.1, h.2.2.2.2.1, o.tr h.2.2.2.2.2⟩
theorem PF.pl (F : PF b L s0 s t s' t') (D : t 10 10 = nI 0 → DR s t R) : PL b L s0 s t s' t' :=
  ⟨F.2.2.1, F.2.2.2.1, F.1 27 5 (by omega), F.2.2.2.2.1, fun z => ⟨R, (D (F.2.2.2.2.2 z)).k F.1 F.2.1⟩, F.2.1.l⟩
theorem K_ref {p : Nat} (hL : L ≤ 160) (eL : s 27 1 = nI L) (hb : ∀ i, i < L → s 28 i = b i) (e8 : s 27 8 = nI p) (hp : p ≤ L) : wp (T_refuseNinth s) (fun s' => keepF s s' ∧ FK s s' ∧ ((tkS b L p = nI 2 ∨ tkS b L p = nI 1) → s 27 3 = 0 → ¬ s' 27 3 = 0 ∧ s' 27 4 = nI (stV b L p)) ∧ (¬ (tkS b L p = nI 2 ∨ tkS b L p = nI 1) → s' = s)) := by
  have hst := stV_le (b := b) hp
  have go : ∀ y : Int32, y = tkS b L p → wp (T_refuseNinth_26 (nI (stV b L p)) y s) (fun s' => keepF s s' ∧ FK s s' ∧ ((tkS b L p = nI 2 ∨ tkS b L p = nI 1) → s 27 3 = 0 → ¬ s' 27 3 = 0 ∧ s' 27 4 = nI (stV b L p)) ∧ (¬ (tkS b L p = nI 2 ∨ tkS b L p = nI 1) → s' = s)) := fun y hy => by
    unfold T_refuseNinth_26 T_refuseNinth_37
    rw [hy]
    refine wi (fun c => ?_) (fun c => wi (fun d => ?_) (fun d => ws ⟨keepF.rf, FK.rf, fun w => absurd w (fun z => z.elim c d), fun _ => rfl⟩))
    · exact wb (K_fail (by decide) (by decide)) (fun s2 g => ws ⟨g.1, g.2.2.1, fun _ z => ⟨g.2.1, g.2.2.2 z⟩, fun w => absurd (Or.inl c) w⟩)
    · exact wb (K_fail (by decide) (by decide)) (fun s2 g => ws ⟨g.1, g.2.2.1, fun _ z => ⟨g.2.1, g.2.2.2 z⟩, fun w => absurd (Or.inr d) w⟩)
  unfold T_refuseNinth
  rw [K_place hL eL hb e8 hp]
  refine wsb ?_
  rw [eL]
  refine wi (fun c => ?_) (fun c => go _ ?_)
  · have hc := (nI_ltI (by omega) (by omega)).mp c
    refine wm rfl (by omega) (by decide) ?_
    rw [sortOf_eq, hb _ hc]
    exact wsb (go _ (by unfold tkS; rw [if_pos hc]))
  · unfold tkS
    rw [if_neg (fun w => c ((nI_ltI (by omega) (by omega)).mpr w))]
theorem rO_f {fu : Nat} (h : ¬ t 10 10 = 0) : M_readOut_2 (fu + 1) y t = some t := by
  rw [M_readOut_2, if_neg h]
theorem rO_n {fu : Nat} (h : ¬ t 10 14 = nI 2) : M_readOut_2 (fu + 1) y t = some t := by
  rw [M_readOut_2]
  by_cases c : t 10 10 = 0
  · rw [if_pos c, if_neg h]
  · rw [if_neg c]
theorem num_ok {p M w : Nat} (hM : M < 1000) (C : CR b L p t) (c2 : tkS b L p = nI 2) (e15 : t 10 15 = nI w) (hw : w ≤ M) : M_number (nI 0) (nI M) t = (M_step t).bind fun s1 => some (nI w, s1) := by
  have e14 : t 10 14 = nI 2 := C.2.2.2.1.trans c2
  unfold M_number M_number_20 M_number_47 M_number_62
  rw [C.1, if_pos (by decide), e14, if_pos rfl, if_pos (by decide), e15, inP (lo := nI 0) (hi := nI M) rfl rfl, if_pos ⟨nI_pos (by omega), fun z => by have := (nI_ltI (by omega) (by omega)).mp z; omega⟩]
  rfl
theorem XA.p8 (B : BS b L s0 s t) : ∃ p, p ≤ L ∧ s 27 8 = nI p := by
  obtain ⟨p, e, h⟩ := B.1.1.2.2.2.bh
  exact ⟨p, h, e⟩
theorem K_o27 : ∀ (n i fu fu' : Nat) (s t : sg), BS b L s0 s t → XA b L s t → (i = 8 → s 27 3 = 0 → ¬ s 27 6 = nI 2) → i + n = 8 → n < fu → n < fu' → (t 10 10 = nI 0 → DR s t R) → w2 (T_tellOut_27 fu (nI i) s) ((M_readOut_2 fu' (nI i) t).bind refFin) (PL b L s0 s t)
  | n, i, 0, fu', s, t, B, X, h8, hr, hf, hf', D => absurd hf (by omega)
  | n, i, fu + 1, 0, s, t, B, X, h8, hr, hf, hf', D => absurd hf' (by omega)
  | n, i, fu + 1, fu' + 1, s, t, B, X, h8, hr, hf, hf', D => by
    have fin : M_readOut_2 (fu' + 1) (nI i) t = some t → w2 (T_tellOut_74 s) ((M_readOut_2 (fu' + 1) (nI i) t).bind refFin) (PL b L s0 s t) := fun e => by
      rw [e]
      exact w2sr ((K_finA B X).c (fun a c F => F.pl D))
    rw [T_tellOut_27]
    by_cases ci : i < 8
    · obtain ⟨n, rfl⟩ : ∃ m, n = m + 1 := ⟨n - 1, by omega⟩
      rw [if_pos ((nI_ltI (by omega) (by decide)).mpr ci), nI_add]
      by_cases c6 : s 27 6 = nI 2
      · rw [if_pos c6]
        rcases X with ⟨h3, p, hp, nb, C, e6, e7, e8⟩ | ⟨h3, h1, h4⟩
        · have c2 : tkS b L p = nI 2 := e6.symm.trans c6
          obtain ⟨_, ew, w, hw, evw⟩ := W_tokenValue B.l B.1.1.2.2.2
          rw [K_value B.l B.2.1 hp c6 e7 e8] at ew ⊢
          cases ew
          have e15 : t 10 15 = nI w := (C.2.2.2.2 c2).trans evw
          rw [M_readOut_2, C.1, if_pos (by decide), C.2.2.2.1, if_pos c2, if_neg (i32_ne (by omega) (by omega) (by decide)), num_ok (by decide) C c2 e15 hw, evw, nI_add, nI_add]
          refine w2sl (w2l rfl (by omega) (by decide) (w2sl ?_))
          rw [Option.bind_assoc, Option.bind_assoc]
          refine w2br (R_stepC B (Or.inl ⟨h3, p, hp, nb, C, e6, e7, e8⟩)) (fun t1 g => ?_)
          refine w2sr ?_
          rw [Option.bind_assoc]
          refine w2r rfl (by omega) (by decide) ?_
          rw [Option.bind_assoc]
          refine w2sr ?_
          dsimp only
          have B1 : BS b L s0 (up s 36 i (nI w)) (up t1 12 (41 + i) (nI w - nI 10)) := (g.2.1.u3 (by decide)).t12 (by omega)
          have X1 : XC b L (up s 36 i (nI w)) (up t1 12 (41 + i) (nI w - nI 10)) := (g.2.2.1.us (by omega)).ut (by omega)
          have D1 : (up t1 12 (41 + i) (nI w - nI 10)) 10 10 = nI 0 → DR (up s 36 i (nI w)) (up t1 12 (41 + i) (nI w - nI 10)) R := fun z => by
            rw [up_p (by decide)] at z
            exact ((D (g.2.2.2.2 z)).k keepC.rf g.1).outs ci
          have o1 : offLn t (up t1 12 (41 + i) (nI w - nI 10)) := g.1.l.tr offLn.ur
          have f1 : FM t (up t1 12 (41 + i) (nI w - nI 10)) := g.2.2.2.1.tr (FM.u (by omega))
          have k1 : (up s 36 i (nI w)) 27 5 = s 27 5 := up_p (by decide)
          have z3 : (up s 36 i (nI w)) 27 3 = 0 := (up_p (by decide)).trans h3
          generalize up t1 12 (41 + i) (nI w - nI 10) = T2 at *
          generalize up s 36 i (nI w) = S1 at *
          have next : ∀ s2 : sg, keepF S1 s2 → BS b L s0 s2 T2 → XC b L s2 T2 → (i + 1 = 8 → s2 27 3 = 0 → T2 10 10 = nI 0 → ¬ T2 10 14 = nI 2) → w2 (T_tellOut_67 (T_tellOut_27 fu) (nI (i + 1)) s2) ((M_readOut_2 fu' (nI (i + 1)) T2).bind refFin) (PL b L s0 s t) := fun s2 kf B2 X2 hh => by
            unfold T_tellOut_67
            refine w2bl (K_tokA B2 X2) (fun s3 h3' => ?_)
            refine (K_o27 n (i + 1) fu fu' s3 T2 h3'.2.1 h3'.2.2 (fun e8' z36 z6 => ?_) (by omega) (by omega) (by omega) (fun z => (D1 z).k (kf.c.tr h3'.1) offK.rf)).c (fun a c h => h.pre5 ?_ o1 f1)
            · rcases h3'.2.2 with ⟨_, p3, _, _, C3, e63, _⟩ | ⟨q1, _⟩
              · have hs2 : s2 27 3 = 0 := by
                  rcases X2 with ⟨q, _⟩ | ⟨q1, _⟩
                  · exact q
                  · exact absurd C3.1 q1
                exact hh e8' hs2 C3.1 (C3.2.2.2.1.trans (e63.symm.trans z6))
              · exact absurd z36 q1
            · rw [h3'.1 27 5 (by omega), kf 27 5 (by omega)]; exact k1
          by_cases e9 : i + 1 = 8
          · rw [if_pos (by rw [e9])]
            obtain ⟨p', hp', e8'⟩ := XA.p8 B1
            refine w2bl (K_ref (b := b) B1.l B1.eL B1.2.1 e8' hp') (fun s2 r => ?_)
            obtain ⟨r1, r2, r3, r4⟩ := r
            by_cases c12 : tkS b L p' = nI 2 ∨ tkS b L p' = nI 1
            · obtain ⟨u1, u2⟩ := r3 c12 z3
              rcases X1 with ⟨_, p3, hp3, e83, nb3, C3⟩ | ⟨q1, ⟨_, p3, hp3, e83, nb3, q2⟩ | ⟨q2, _⟩⟩
              · have ep : p3 = p' := by
                  have h1 := B1.l
                  rw [e8', nI_eq (by omega) (by omega)] at e83
                  exact e83.symm
                subst ep
                obtain ⟨qq, bbq, rrq, TT⟩ := B1.2.2.1
                have ref : ∀ c : Nat, 0 < c → c ≤ 6 → ((M_readOut_2 fu' (nI (i + 1)) T2).bind refFin) = some (up (up T2 10 10 (nI c)) 10 11 (nI (stV b L p3))) → w2 (T_tellOut_67 (T_tellOut_27 fu) (nI (i + 1)) s2) ((M_readOut_2 fu' (nI (i + 1)) T2).bind refFin) (PL b L s0 s t) := fun c hc hc6 er => by
                  rw [er]
                  have T3 : TX (up (up T2 10 10 (nI c)) 10 11 (nI (stV b L p3))) L qq c rrq := (TT.u10 hc6).u (by decide)
                  have o3 : offK T2 (up (up T2 10 10 (nI c)) 10 11 (nI (stV b L p3))) := (offK.u (by decide)).tr (offK.u (by decide))
                  have nz3 : ¬ (up (up T2 10 10 (nI c)) 10 11 (nI (stV b L p3))) 10 10 = 0 := by rw [up_k (by decide), up_eq]; exact nI_ne0 hc (by omega)
                  have B3 : BS b L s0 s2 (up (up T2 10 10 (nI c)) 10 11 (nI (stV b L p3))) := (B1.f r1).tt o3 ⟨_, _, _, T3⟩
                  have X3 : XC b L s2 (up (up T2 10 10 (nI c)) 10 11 (nI (stV b L p3))) := Or.inr ⟨nz3, Or.inr ⟨u1, by rw [up_eq]; exact u2⟩⟩
                  unfold T_tellOut_67
                  refine w2bl (K_tokA B3 X3) (fun s3 h3' => ?_)
                  obtain ⟨fu, rfl⟩ : ∃ m, fu = m + 1 := ⟨fu - 1, by omega⟩
                  rw [T_tellOut_27, e9, if_neg (by decide)]
                  obtain ⟨a4, c4, ea4, ec4, F4⟩ := K_finA h3'.2.1 h3'.2.2
                  have hc4 : c4 = up (up T2 10 10 (nI c)) 10 11 (nI (stV b L p3)) := by
                    unfold refFin M_readLine_119 at ec4
                    rw [if_neg nz3, R_step1 T3 nz3] at ec4
                    exact (Option.some.inj ec4).symm
                  subst hc4
                  refine ⟨a4, _, ea4, rfl, ?_⟩
                  refine ⟨F4.2.2.1, F4.2.2.2.1, ?_, fun z => absurd C.1 z, fun z => absurd z nz3, o1.tr o3.l⟩
                  rw [F4.1 27 5 (by omega), h3'.1 27 5 (by omega), r1 27 5 (by omega)]; exact k1
                obtain ⟨fu', rfl⟩ : ∃ m, fu' = m + 1 := ⟨fu' - 1, by omega⟩
                have stepF : ∀ c : Nat, 0 < c → c ≤ 6 → refFin (up (up T2 10 10 (nI c)) 10 11 (nI (stV b L p3))) = some (up (up T2 10 10 (nI c)) 10 11 (nI (stV b L p3))) := fun c hc hc6 => by
                  have nz3 : ¬ (up (up T2 10 10 (nI c)) 10 11 (nI (stV b L p3))) 10 10 = 0 := by rw [up_k (by decide), up_eq]; exact nI_ne0 hc (by omega)
                  unfold refFin M_readLine_119
                  rw [if_neg nz3, R_step1 (((TT.u10 hc6).u (by decide)) : TX _ L qq c rrq) nz3]; rfl
                rcases c12 with c12 | c12
                · refine ref 5 (by decide) (by decide) ?_
                  rw [M_readOut_2, C3.1, if_pos (by decide), C3.2.2.2.1, if_pos c12, e9, if_pos rfl, M_fails_0 C3.1 C3.2.1]
                  exact stepF 5 (by decide) (by decide)
                · refine ref 2 (by decide) (by decide) ?_
                  rw [rO_n (by rw [C3.2.2.2.1, c12]; decide)]
                  show refFin T2 = _
                  have e1 : refFin T2 = (M_fails (nI 2) T2).bind fun s4 => M_readLine_119 s4 := by
                    unfold refFin
                    rw [C3.1, if_pos (by decide), C3.2.2.2.1, if_neg (by rw [c12]; decide)]
                  rw [e1, M_fails_0 C3.1 C3.2.1]
                  have nz3 : ¬ (up (up T2 10 10 (nI 2)) 10 11 (nI (stV b L p3))) 10 10 = 0 := by rw [up_k (by decide), up_eq]; decide
                  show M_readLine_119 (up (up T2 10 10 (nI 2)) 10 11 (nI (stV b L p3))) = _
                  unfold M_readLine_119
                  rw [R_step1 (((TT.u10 (q := 2) (by decide)).u (by decide)) : TX _ L qq 2 rrq) nz3]; rfl
              · have ep : p3 = p' := by
                  have h1 := B1.l
                  rw [e8', nI_eq (by omega) (by omega)] at e83
                  exact e83.symm
                subst ep
                exact next s2 r1 (B1.f r1) (Or.inr ⟨q1, Or.inr ⟨u1, u2.trans q2.symm⟩⟩) (fun _ _ z => absurd z q1)
              · exact absurd z3 q2
            · obtain rfl := r4 c12
              refine next s2 r1 B1 X1 (fun _ _ z z14 => ?_)
              rcases X1 with ⟨_, p3, hp3, e83, nb3, C3⟩ | ⟨q1, _⟩
              · have ep : p3 = p' := by
                  have h1 := B1.l
                  rw [e8', nI_eq (by omega) (by omega)] at e83
                  exact e83.symm
                subst ep
                exact c12 (Or.inl (C3.2.2.2.1.symm.trans z14))
              · exact absurd z q1
          · rw [if_neg (i32_ne e9 (by omega) (by decide))]
            exact next S1 keepF.rf B1 X1 (fun w => absurd w e9)
        · rw [rO_f h1]
          refine w2bl (W_tokenValue B.l B.1.1.2.2.2) (fun v _ => ?_)
          refine w2l rfl (by omega) (by decide) (w2sl ?_)
          have B1 : BS b L s0 (up s 36 i v) t := B.u3 (by decide)
          have X1 : XC b L (up s 36 i v) t := XC.us (Or.inr ⟨h1, Or.inr ⟨h3, h4⟩⟩) (by omega)
          have z3 : ¬ (up s 36 i v) 27 3 = 0 := by rw [up_p (by decide)]; exact h3
          have k1 : (up s 36 i v) 27 5 = s 27 5 := up_p (by decide)
          generalize up s 36 i v = S1 at *
          have next : ∀ s2 : sg, keepF S1 s2 → BS b L s0 s2 t → XC b L s2 t → w2 (T_tellOut_67 (T_tellOut_27 fu) (nI (i + 1)) s2) ((some t).bind refFin) (PL b L s0 s t) := fun s2 kf B2 X2 => by
            unfold T_tellOut_67
            refine w2bl (K_tokA B2 X2) (fun s3 h3' => ?_)
            have hz := h3'.2.2.fl h1
            have h := K_o27 n (i + 1) fu (fu' + 1) s3 t h3'.2.1 h3'.2.2 (fun _ z => absurd z hz.1) (by omega) (by omega) (by omega) (fun z => absurd z h1)
            rw [rO_f h1] at h
            refine h.c (fun a c h => h.pre5 ?_ offLn.rf FM.rf)
            rw [h3'.1 27 5 (by omega), kf 27 5 (by omega)]; exact k1
          refine w2il (fun _ => ?_) (fun _ => next S1 keepF.rf B1 X1)
          obtain ⟨p', hp', e8'⟩ := XA.p8 B1
          refine w2bl (K_ref (b := b) B1.l B1.eL B1.2.1 e8' hp') (fun s2 r => ?_)
          exact next s2 r.1 (B1.f r.1) (X1.fk z3 r.2.1)
      · rw [if_neg c6]
        refine fin ?_
        rcases X with ⟨h3, p, hp, nb, C, e6, e7, e8⟩ | ⟨h3, h1, h4⟩
        · exact rO_n (by rw [C.2.2.2.1, ← e6]; exact c6)
        · exact rO_f h1
    · rw [if_neg (fun z => ci ((nI_ltI (by omega) (by decide)).mp z))]
      refine fin ?_
      rcases X with ⟨h3, p, hp, nb, C, e6, e7, e8⟩ | ⟨h3, h1, h4⟩
      · exact rO_n (by rw [C.2.2.2.1, ← e6]; exact h8 (by omega) h3)
      · exact rO_f h1
theorem K_16 (B : BS b L s0 s t) (X : XC b L s t) (D : t 10 10 = nI 0 → DR (up s 27 9 (nI 1)) t R) : w2 (T_tellOut_16 s) ((M_readMore (nI 6) t).bind refFin) (PL b L s0 s t) := by
  unfold T_tellOut_16 M_readMore M_readOut
  rw [if_pos (show nI 3 < nI 6 by decide), if_neg (show ¬ nI 6 = nI 4 by decide), if_neg (show ¬ nI 6 = nI 5 by decide), obs]
  refine w2sl ?_
  refine w2bl (K_tokA (B.u27 (by decide)) (X.us (by omega))) (fun s2 h => ?_)
  refine (K_o27 (R := R) 8 0 FU FU s2 t h.2.1 h.2.2 (fun w => absurd w (by decide)) (by decide) (by decide) (by decide) (fun z => (D z).k h.1 offK.rf)).c (fun a c g => g.pre5 ?_ offLn.rf FM.rf)
  rw [h.1 27 5 (by omega), up_k (by decide)]
end OUT
