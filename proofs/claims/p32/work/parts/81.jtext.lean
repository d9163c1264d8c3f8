/-! text(), by both -/
section JTEXT
variable {s t s' t' : sg} {b : Nat → Int32} {L R : Nat} {x x1 y : Int32}
theorem sb {α β : Type} {a : α} {f : α → Option β} : (some a).bind f = f a := rfl
theorem DR.hr {g : Nat → Int32} (D : DR s t R) (hg : ∀ k, k < 52 → g k = t 12 k) : HR s 29 g R := by
  obtain ⟨d1, d2, d3, d4, d5, d6, d7, d8, d9, d10⟩ := D
  have h6 := d1.2.1
  refine ⟨h6, d1.1, ⟨0, Nat.two_pow_pos R, d8.1, fun r hr => ?_⟩, ?_, ⟨?_, 0, by decide, ?_⟩, ⟨?_, 0, by decide, ?_⟩, fun r hr => ?_, fun r hr => ?_, fun r hr => ?_, fun r hr => ?_, fun w hw => ?_, fun i hi => ?_⟩
  · rw [hg _ (by omega), d6 r (by omega), Nat.zero_div]
  · rw [hg _ (by omega), d7.1]; exact d8.2.1
  · rw [hg _ (by omega), d7.2.1]; exact d8.2.2.1
  · rw [hg _ (by omega)]; exact d7.2.1
  · rw [hg _ (by omega), d7.2.2]; exact d8.2.2.2
  · rw [hg _ (by omega)]; exact d7.2.2
  · rw [hg _ (by omega), Nat.zero_add]; exact (d2 r hr).1
  · rw [hg _ (by omega)]; exact (d2 r hr).2.1
  · rw [hg _ (by omega)]; exact (d2 r hr).2.2
  · rw [hg _ (by omega), hg _ (by omega)]; exact d3 r (by omega)
  · rw [hg _ (by omega)]; exact d4 w (by omega)
  · rw [hg _ (by omega)]; exact d5 i hi
theorem E_55 : ∀ (n r fu : Nat) (s : sg), (∀ i, i < r → s 20 i = nI 0) → r + n = 2 → n < fu → wp (C_text_55 fu (nI r) s) (fun v => v.1 = s 27 5 ∧ (∀ p, p ≠ 20 → v.2 p = s p) ∧ ∀ i, i < 2 → v.2 20 i = nI 0)
  | n, r, 0, s, h, hr, hf => absurd hf (by omega)
  | n, r, fu + 1, s, h, hr, hf => by
    rw [C_text_55]
    refine wi (fun c => ?_) (fun c => ?_)
    · have hc := (nI_ltI (by omega) (by decide)).mp c
      refine wm rfl (by omega) (by decide) (wsb ?_)
      rw [nI_add, show vp_nar .boolean (nI 0) = nI 0 by decide]
      refine wc (E_55 (n - 1) (r + 1) fu _ (fun i hi => ?_) (by omega) (by omega)) (fun a g => ⟨g.1.trans (up_p (by decide)), fun p hp => (g.2.1 p hp).trans (up_off hp), g.2.2⟩)
      by_cases z : i = r
      · rw [z, up_eq]
      · rw [up_k z]; exact h i (by omega)
    · have hc : ¬ r < 2 := fun z => c ((nI_ltI (by omega) (by decide)).mpr z)
      exact ws ⟨rfl, fun _ _ => rfl, fun i hi => h i (by omega)⟩
theorem J_tell (F : RF s t) (hL : L ≤ 160) (e1 : s 27 1 = nI L) (e2 : t 10 8 = nI L) (e3 : ∀ i, i < L → ∃ c : Nat, c < 128 ∧ s 28 i = nI c ∧ t 13 i = nI c) : ∃ t2, (∀ p k, p ≠ 10 → p ≠ 12 → t2 p k = t p k) ∧ (∀ k, k = 1 ∨ k = 22 ∨ k = 28 → t2 10 k = t 10 k) ∧ w2 (T_tell s) (M_text t) (PT (s 28) L s t2) := by
  obtain ⟨⟨R0, G⟩, I, M⟩ := F
  obtain ⟨s1, es1, o1, z1, z2, z3, z4⟩ := E_empty (s := s) (q := 29)
  have hs7 : ∃ s7, T_tell s = ((T_nextToken s7).bind fun s8 => T_tell_43 FU (nI 0) s8) ∧ (∀ p, p ≠ 27 → s7 p = s1 p) ∧ (∀ k, k ≠ 3 → k ≠ 4 → k ≠ 5 → k ≠ 8 → k ≠ 9 → k ≠ 10 → s7 27 k = s1 27 k) ∧ s7 27 3 = nI 0 ∧ s7 27 5 = nI 0 ∧ s7 27 8 = nI 0 ∧ s7 27 9 = nI 0 ∧ s7 27 10 = nI 0 := by
    refine ⟨up (up (up (up (up (up s1 27 3 (nI 0)) 27 4 (nI 0)) 27 5 (nI 0)) 27 8 (nI 0)) 27 9 (nI 0)) 27 10 (nI 0), ?_, fun p hp => ?_, fun k h1 h2 h3 h4 h5 h6 => ?_, ?_, ?_, ?_, ?_, ?_⟩
    · unfold T_tell
      rw [es1, sb, sb, sb, sb, sb, sb, sb]
    · rw [up_off hp, up_off hp, up_off hp, up_off hp, up_off hp, up_off hp]
    · rw [up_k h6, up_k h5, up_k h4, up_k h3, up_k h2, up_k h1]
    · rw [up_k (by decide), up_k (by decide), up_k (by decide), up_k (by decide), up_k (by decide), up_eq]
    · rw [up_k (by decide), up_k (by decide), up_k (by decide), up_eq]
    · rw [up_k (by decide), up_k (by decide), up_eq]
    · rw [up_k (by decide), up_eq]
    · rw [up_eq]
  obtain ⟨s7, eT, k1, k2, k3, k5, k8, k9, k10⟩ := hs7
  have b1 : s7 27 1 = nI L := by rw [k2 1 (by decide) (by decide) (by decide) (by decide) (by decide) (by decide), o1 27 (by omega)]; exact e1
  have b28 : ∀ i, i < L → s7 28 i = s 28 i := fun i _ => by rw [k1 28 (by decide), o1 28 (by omega)]
  obtain ⟨s8, e8, N, kC, CU8⟩ := wan (K_next (b := s 28) (p := 0) hL b1 b28 k8 (by omega)) (W_nextToken hL b1 k8 (by omega))
  have oL8 : offL s s8 := fun p hp => by
    have h1 : s8 p = s7 p := by funext k; exact kC p k (fun w => hp (Or.inl w.1))
    rw [h1, k1 p (fun w => hp (Or.inl w)), o1 p (by omega)]
  have hs29 : ∀ q, 29 ≤ q → s8 q = s1 q := fun q hq => by
    have h1 : s8 q = s7 q := by funext k; exact kC q k (by omega)
    rw [h1, k1 q (by omega)]
  have TQ8 : TQ s L s8 := by
    refine ⟨⟨(kC 27 1 (by omega)).trans b1, hL, ⟨0, ?_, by omega, ?_, fun r hr => ?_⟩, CU8⟩, oL8⟩
    · rw [hs29 29 (by omega)]; exact z1 0 (by decide)
    · rw [hs29 29 (by omega)]; exact z1 2 (by decide)
    · rw [hs29 (29 + 4) (by omega)]; exact Or.inl (z2 r hr)
  have hT : ∃ T1, M_text t = ((M_step T1).bind fun s1 => M_text_57 FU (nI 0) s1) ∧ (∀ k, k < 52 → T1 12 k = nI 0) ∧ (∀ p k, p ≠ 10 → p ≠ 12 → T1 p k = t p k) ∧ (∀ k, ¬ (k = 10 ∨ k = 12 ∨ (3 ≤ k ∧ k ≤ 6)) → T1 10 k = t 10 k) ∧ T1 10 10 = nI 0 ∧ T1 10 12 = nI 0 ∧ T1 10 3 = nI 0 ∧ T1 10 4 = nI 0 ∧ T1 10 5 = nI 0 ∧ T1 10 6 = -1 := by
    obtain ⟨T1, a1, a2, a3⟩ := Z_34 (x1 := nI 0) (T := up (up (up (up (up (up t 10 10 (nI 0)) 10 12 (nI 0)) 10 3 (nI 0)) 10 4 (nI 0)) 10 5 (nI 0)) 10 6 (-1)) 52 0 FU (up (up (up (up (up (up t 10 10 (nI 0)) 10 12 (nI 0)) 10 3 (nI 0)) 10 4 (nI 0)) 10 5 (nI 0)) 10 6 (-1)) (fun k hk => absurd hk (by omega)) (fun _ _ _ => rfl) (by decide) (by decide)
    refine ⟨T1, ?_, a2, fun p k h1 h2 => ?_, fun k hk => ?_, ?_, ?_, ?_, ?_, ?_, ?_⟩
    · unfold M_text
      rw [sb, sb, sb, sb, sb, sb]
      exact a1
    · rw [a3 p k h2, up_p h1, up_p h1, up_p h1, up_p h1, up_p h1, up_p h1]
    · rw [a3 10 k (by decide), up_k (by omega), up_k (by omega), up_k (by omega), up_k (by omega), up_k (by omega), up_k (by omega)]
    · rw [a3 10 10 (by decide), up_k (by decide), up_k (by decide), up_k (by decide), up_k (by decide), up_k (by decide), up_eq]
    · rw [a3 10 12 (by decide), up_k (by decide), up_k (by decide), up_k (by decide), up_k (by decide), up_eq]
    · rw [a3 10 3 (by decide), up_k (by decide), up_k (by decide), up_k (by decide), up_eq]
    · rw [a3 10 4 (by decide), up_k (by decide), up_k (by decide), up_eq]
    · rw [a3 10 5 (by decide), up_k (by decide), up_eq]
    · rw [a3 10 6 (by decide), up_eq]
  obtain ⟨T1, eM, t1, t2, t3, q10, q12, q3, q4, q5, q6⟩ := hT
  have X1 : TX T1 L 0 0 0 := ⟨(t3 8 (by omega)).trans e2, hL, q12, by omega, q10, by omega, q3, by omega, t1 49 (by decide), M.2.2.2.2.2.k (by funext k; exact t2 14 k (by decide) (by decide))⟩
  have B1 : TB (s 28) L T1 := fun i hi => by
    obtain ⟨c, h1, h2, h3⟩ := e3 i hi
    refine ⟨?_, c, h1, h2⟩
    rw [t2 13 i (by decide) (by decide), h3, h2]
  obtain ⟨T2, eS, RS2, p2, b2, X2, _⟩ := wan (R_step X1 B1) (V_step X1)
  have oK := RS2.1
  have BS8 : BS (s 28) L s s8 T2 := ⟨TQ8, fun i hi => (kC 28 i (by omega)).trans (b28 i hi), ⟨p2, b2, 0, X2⟩, B1.k oK⟩
  have D7 : DR s7 T1 0 := by
    have hs : ∀ q, 29 ≤ q → s7 q = s1 q := fun q hq => k1 q (by omega)
    refine ⟨⟨?_, by omega, q3⟩, fun r hr => absurd hr (by omega), fun r hr => ?_, fun w hw => ?_, fun i hi => ?_, fun r hr => t1 _ (by omega), ⟨t1 _ (by decide), t1 _ (by decide), t1 _ (by decide)⟩, ⟨?_, ?_, ?_, ?_⟩, ⟨0, 0, by decide, by decide, k10, q4, ?_, fun r hr h => ?_, fun w hw h => ?_, Or.inl rfl⟩, ?_⟩
    · rw [hs 29 (by omega)]; exact z1 0 (by decide)
    · rw [t1 _ (by omega), t1 _ (by omega), hs 33 (by omega)]
      exact ⟨⟨0, by decide, rfl, (z2 r hr).trans (by decide)⟩, ⟨0, by decide, rfl⟩, fun w => absurd w (by decide)⟩
    · rw [t1 _ (by omega), hs 35 (by omega)]; exact (z3 w hw).trans (by decide)
    · rw [t1 _ (by omega), hs 36 (by omega)]; exact (z4 i hi).trans (by decide)
    · rw [hs 29 (by omega)]; exact z1 1 (by decide)
    · rw [hs 29 (by omega)]; exact z1 2 (by decide)
    · rw [hs 29 (by omega)]; exact z1 3 (by decide)
    · rw [hs 29 (by omega)]; exact z1 4 (by decide)
    · rw [q6]; decide
    · rw [t1 _ (by omega)] at h; exact absurd h (by decide)
    · rw [Nat.zero_div] at h; exact absurd h (by decide)
    · rw [k9, q5]; exact ⟨rfl, Or.inl rfl⟩
  have D8 : DR s8 T2 0 := D7.k N.1 oK
  have XA8 : XA (s 28) L s8 T2 := by
    by_cases c : badT (s 28) L 0
    · have h1 := N.2.2.2.2.2 c k3
      have h2 := RS2.2.2 c
      exact Or.inr ⟨h1.1, h2.1, h1.2.trans h2.2.symm⟩
    · have h1 := N.2.2.2.2.1 c
      exact Or.inl ⟨h1.2 k3, 0, by omega, c, RS2.2.1 c, h1.1, N.2.1, N.2.2.1⟩
  refine ⟨T2, fun p k h1 h2 => ?_, fun k hk => ?_, ?_⟩
  · rw [oK p k (by omega)]; exact t2 p k h1 h2
  · rw [oK 10 k (by omega)]; exact t3 k (by omega)
  · rw [eT, eM, e8, eS]
    refine w2sl (w2sr ?_)
    have hp2 := X2.p2
    have A2 : LT T2 := G.lt.k (by funext k; rw [oK 14 k (by omega)]; exact t2 14 k (by decide) (by decide)) (by funext k; rw [oK 15 k (by omega)]; exact t2 15 k (by decide) (by decide))
    refine K_43 (L - p2) 0 FU FU p2 s8 T2 BS8 XA8 (fun _ => ⟨0, D8⟩) A2 X2.p (by omega) (by rw [kC 27 5 (by omega)]; exact k5) ?_
    have hFU : FU = 100000 := rfl
    rcases XA8 with ⟨_, p, hp, nb, C, e6, _, _⟩ | ⟨g3, _⟩
    · by_cases c : tkS (s 28) L p = nI 0
      · exact Or.inr ⟨by omega, by omega, fun _ => e6.trans c⟩
      · refine Or.inl ⟨by omega, by omega, ?_⟩
        have h1 := tok_pos c nb hp
        have hE := tkE_le (b := s 28) hp
        have h2 := X2.p
        rw [C.2.2.1, nI_eq (by omega) (by omega)] at h2
        omega
    · exact Or.inr ⟨by omega, by omega, fun z => absurd z g3⟩
theorem J_text (F : RF s t) : w2 (C_text s) (M_text t) JF := by
  have F' := F
  obtain ⟨⟨R0, G⟩, I, M⟩ := F
  refine J.fin ?_ (W_C_text I) (fun _ h => h.1) (V_M_textI M) (fun _ h => h.1)
  obtain ⟨L, hL, e1, e2, e3⟩ := G.tp
  obtain ⟨t2, o2, k2, a, c, ea, ec, P⟩ := J_tell F' hL e1 e2 e3
  unfold C_text
  rw [ea, ec]
  refine w2sl (w2sl ?_)
  obtain ⟨oL, e8, h⟩ := P
  rcases h with ⟨a0, c0, oX⟩ | ⟨a1, c1, R, T, D, oT, sc⟩
  · rw [a0, if_pos (by decide)]
    refine w2s ⟨?_, R0, ?_⟩
    · show -10 - (up a.2 27 1 (nI 0)) 27 4 = c.1
      rw [up_k (by decide), c0]
    · have oS : ∀ p, p ≠ 27 → ¬ (29 ≤ p ∧ p ≤ 36) → (up a.2 27 1 (nI 0)) p = s p := fun p h1 h2 => by
        rw [up_off h1]; exact oL p (by omega)
      have oC : ∀ p, p ≠ 10 → p ≠ 12 → c.2 p = t p := fun p h1 h2 => by
        funext k
        rw [oX p k (by omega) h2]; exact o2 p k h1 h2
      have oO : ∀ k, k = 1 ∨ k = 22 ∨ k = 28 → c.2 10 k = t 10 k := fun k hk => by
        rw [oX 10 k (by omega) (by decide)]; exact k2 k hk
      dsimp only
      refine ⟨(oO 1 (by omega)).trans G.r, ?_, ?_, ?_, ?_, ?_, ?_, ?_⟩
      · rw [pgE (oC 11 (by decide) (by decide))]
        exact G.h.off (fun p q1 q2 => oS p (by omega) (by omega))
      · exact G.kp.k (oS 20 (by omega) (by omega)) (fun p _ _ => oS p (by omega) (by omega)) (oC 19 (by decide) (by decide)) (fun k _ _ => by rw [oC 11 (by decide) (by decide)])
      · exact ⟨0, by omega, up_eq, e8, fun i hi => absurd hi (by omega)⟩
      · exact G.fe.k (oS 23 (by omega) (by omega)) (oS 24 (by omega) (by omega)) (oS 25 (by omega) (by omega)) (oS 26 (by omega) (by omega)) (oO 22 (by omega)) (oC 17 (by decide) (by decide))
      · exact G.sh.k (fun p _ _ => oS p (by omega) (by omega)) (oC 20 (by decide) (by decide)) (oC 21 (by decide) (by decide)) (oC 22 (by decide) (by decide))
      · rw [oS 10 (by omega) (by omega), oO 28 (by omega)]; exact G.tn
      · exact G.lt.k (oC 14 (by decide) (by decide)) (oC 15 (by decide) (by decide))
  · rw [a1, if_neg (by decide), copyFrom_eq (show dj 11 29 from Or.inl (by decide))]
    refine w2sl (w2sl ?_)
    obtain ⟨v, ev, v1, v2, v3⟩ := E_55 2 0 FU (up (cpH (up a.2 27 1 (nI 0)) 11 29) 23 3 (nI 0)) (fun i hi => absurd hi (by omega)) (by decide) (by decide)
    refine ⟨v, c, ev, rfl, ?_, R, ?_⟩
    · rw [v1, up_p (by decide), congrFun (cpH_off 27 (by omega)) 5, up_k (by decide)]
      exact c1.symm
    · have oS : ∀ p, p ≠ 27 → ¬ (29 ≤ p ∧ p ≤ 36) → p ≠ 20 → p ≠ 23 → ¬ (11 ≤ p ∧ p ≤ 18) → v.2 p = s p := fun p h1 h2 h3 h4 h5 => by
        rw [v2 p h3, up_off h4, cpH_off p (by omega), up_off h1]; exact oL p (by omega)
      have oC : ∀ p, p ≠ 10 → p ≠ 12 → p ≠ 11 → p ≠ 19 → c.2 p = t p := fun p h1 h2 h3 h4 => by
        funext k
        rw [sc.2.2.2.2.2 p k (by omega) (by omega) h4, oT p k (by omega) h2]; exact o2 p k h1 h2
      refine ⟨?_, ?_, fun k hk => Or.inl ⟨v3 k hk, ?_⟩, ?_, ?_, ?_, ?_, ?_⟩
      · rw [sc.2.1]; exact D.1.2.2
      · have H1 : HR a.2 29 (pg c.2 0) R := D.hr (fun k hk => by rw [pg0]; exact sc.1 k hk)
        have H2 : HR (up a.2 27 1 (nI 0)) 29 (pg c.2 0) R := H1.off (fun p q1 q2 => up_off (by omega))
        exact (H2.copy (b := 11)).off (fun p q1 q2 => by rw [v2 p (by omega), up_off (by omega)])
      · have hk' : k = 0 ∨ k = 1 := by omega
        rcases hk' with rfl | rfl
        · exact sc.2.2.2.1
        · exact sc.2.2.2.2.1
      · refine ⟨0, by omega, ?_, e8, fun i hi => absurd hi (by omega)⟩
        rw [v2 27 (by decide), up_p (by decide), congrFun (cpH_off 27 (by omega)) 1, up_eq]
      · refine ⟨0, by omega, ?_, sc.2.2.1, fun i hi => absurd hi (by omega)⟩
        rw [v2 23 (by decide), up_eq]
      · exact G.sh.k (fun p _ _ => oS p (by omega) (by omega) (by omega) (by omega) (by omega)) (oC 20 (by decide) (by decide) (by decide) (by decide)) (oC 21 (by decide) (by decide) (by decide) (by decide)) (oC 22 (by decide) (by decide) (by decide) (by decide))
      · rw [oS 10 (by omega) (by omega) (by omega) (by omega) (by omega), sc.2.2.2.2.2 10 28 (by omega) (by omega) (by decide), oT 10 28 (by omega) (by decide), k2 28 (by omega)]; exact G.tn
      · exact G.lt.k (oC 14 (by decide) (by decide) (by decide) (by decide)) (oC 15 (by decide) (by decide) (by decide) (by decide))
end JTEXT
