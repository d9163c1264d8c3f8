/-! a whole text, from the first letter on -/
section TOLD
variable {s t s' t' s0 : sg} {b : Nat → Int32} {L R : Nat} {x x1 x2 x3 v v1 v2 v3 y : Int32}
theorem PT.pre {c : sg} {a : Int32 × sg} {d : Int32 × sg} (o : offLn t c) (h : PT b L s0 c a d) : PT b L s0 t a d := by
  refine ⟨h.1, h.2.1, ?_⟩
  rcases h.2.2 with ⟨h1, h2, h3⟩ | ⟨h1, h2, R, T, h3, h4, h5⟩
  · exact Or.inl ⟨h1, h2, fun p k a1 a2 => (h3 p k a1 a2).trans (o p k (fun w => a1 ⟨w.1, by omega⟩) a2)⟩
  · exact Or.inr ⟨h1, h2, R, T, h3, o.tr h4, h5⟩
theorem LT.l (A : LT t) (o : offLn t t') : LT t' := A.k (by funext k; exact o 14 k (by omega) (by decide)) (by funext k; exact o 15 k (by omega) (by decide))
theorem K_43 : ∀ (n i fu fu' pos : Nat) (s t : sg), BS b L s0 s t → XA b L s t → (t 10 10 = nI 0 → ∃ R, DR s t R) → LT t → t 10 12 = nI pos → pos + n = L → s 27 5 = nI i → ((n + 2 ≤ fu ∧ n + 2 ≤ fu' ∧ i < pos) ∨ (1 ≤ fu ∧ 1 ≤ fu' ∧ (s 27 3 = 0 → s 27 6 = nI 0))) → w2 (T_tell_43 fu (nI i) s) (M_text_57 fu' (nI i) t) (PT b L s0 t)
  | n, i, 0, fu', pos, s, t, B, X, D, A, ep, hr, e5, hm => absurd hm (by omega)
  | n, i, fu + 1, 0, pos, s, t, B, X, D, A, ep, hr, e5, hm => absurd hm (by omega)
  | n, i, fu + 1, fu' + 1, pos, s, t, B, X, D, A, ep, hr, e5, hm => by
    have hL := B.l
    have fin : (s 27 3 = 0 → s 27 6 = nI 0) → T_tell_43 (fu + 1) (nI i) s = T_tell_88 s → M_text_57 (fu' + 1) (nI i) t = M_text_81 (nI i) t → w2 (T_tell_43 (fu + 1) (nI i) s) (M_text_57 (fu' + 1) (nI i) t) (PT b L s0 t) := fun h e1 e2 => by
      rw [e1, e2]
      exact K_88 B X D h e5
    have c88 : (¬ s 27 3 = 0 ∨ s 27 6 = 0) → T_tell_43 (fu + 1) (nI i) s = T_tell_88 s := fun h => by
      rw [T_tell_43]
      by_cases c : nI i < nI 160
      · rw [if_pos c]
        by_cases d : s 27 3 = 0
        · rw [if_pos d, if_pos (h.resolve_left (fun w => w d))]
        · rw [if_neg d]
      · rw [if_neg c]
    have X' := X
    rcases X with ⟨h3, p, hp, nb, C, e6, e7, e8⟩ | ⟨h3, h1, h4⟩
    · by_cases k0 : tkS b L p = nI 0
      · refine fin (fun _ => e6.trans k0) (c88 (Or.inr (e6.trans k0))) ?_
        rw [M_text_57, C.1, if_pos (by decide), C.2.2.2.1, if_pos (show tkS b L p = 0 from k0)]
      · have hm1 : n + 2 ≤ fu + 1 ∧ n + 2 ≤ fu' + 1 ∧ i < pos := by
          rcases hm with h | ⟨_, _, h⟩
          · exact h
          · exact absurd (e6.symm.trans (h h3)) k0
        obtain ⟨R, D0⟩ := D C.1
        obtain ⟨q, bb, rr, T⟩ := B.2.2.1
        have hE := tkE_le (b := b) hp
        have T' : TX t L pos 0 rr := T.at (by omega) ep C.1
        have epp : pos = tkE b L p := by
          have h := C.2.2.1
          rw [ep, nI_eq (by omega) (by omega)] at h
          exact h
        have F : FR t pos := ⟨stV b L p, by omega, C.2.1⟩
        rw [T_tell_43, if_pos ((nI_ltI (by omega) (by decide)).mpr (by omega)), if_pos h3, e6, if_neg (show ¬ tkS b L p = 0 from k0), M_text_57, C.1, if_pos (by decide), C.2.2.2.1, if_neg (show ¬ tkS b L p = 0 from k0)]
        have hV := V_readLine T' F
        obtain ⟨s1, t1, es, et, P⟩ := K_line B h3 X' D0 A
        rw [et] at hV
        obtain ⟨_, et', p', b', rr', T1, hprog, _⟩ := hV
        cases et'
        rw [es, et]
        refine w2sl (w2sl (w2sr ?_))
        rw [P.2.2.1, e5, nI_add]
        refine w2bl (K_tokA (P.1.u27 (k := 5) (v := nI (i + 1)) (by decide)) (P.2.1.us (by omega))) (fun s3 h => ?_)
        have hp1 := T1.p2
        refine (K_43 (L - p') (i + 1) fu fu' p' s3 t1 h.2.1 h.2.2 (fun z => ?_) (A.l P.2.2.2.2.2) T1.p (by omega) (by rw [h.1 27 5 (by omega), up_eq]) ?_).c (fun a c g => g.pre P.2.2.2.2.2)
        · obtain ⟨R2, D2⟩ := P.2.2.2.2.1 z
          exact ⟨R2, (D2.eq ⟨up_k (by decide), up_k (by decide)⟩ (fun q h1 h2 => up_off (by omega)) rfl (fun _ _ _ => rfl) rfl : DR (up s1 27 5 (nI (i + 1))) t1 R2).k h.1 offK.rf⟩
        · rcases h.2.2 with ⟨g3, p3, _, _, C3, g6, _⟩ | ⟨g3, _⟩
          · have hb : b' = 0 := by
              have z := T1.b
              have z2 := T1.b2
              rw [C3.1, nI_eq (by omega) (by omega)] at z
              exact z.symm
            rcases (hprog hb).2 with z | z
            · exact Or.inr ⟨by omega, by omega, fun _ => g6.trans (C3.2.2.2.1.symm.trans z)⟩
            · exact Or.inl ⟨by omega, by omega, by omega⟩
          · exact Or.inr ⟨by omega, by omega, fun z => absurd z g3⟩
    · refine fin (fun z => absurd z h3) (c88 (Or.inl h3)) ?_
      rw [M_text_57, if_neg h1]
/-! the empty house, number by number -/
theorem E_68 {q : Nat} : ∀ (n r fu : Nat) (s : sg), (∀ i, i < r → s (q + 7) i = nI 10) → r + n = 8 → n < fu → wp (H_empty_68 q fu (nI r) s) (fun s' => (∀ p, p ≠ q + 7 → s' p = s p) ∧ ∀ i, i < 8 → s' (q + 7) i = nI 10)
  | n, r, 0, s, h, hr, hf => absurd hf (by omega)
  | n, r, fu + 1, s, h, hr, hf => by
    rw [H_empty_68]
    refine wi (fun c => ?_) (fun c => ?_)
    · have hc := (nI_ltI (by omega) (by decide)).mp c
      refine wm rfl (by omega) (by decide) (wsb ?_)
      rw [nI_add]
      refine wc (E_68 (n - 1) (r + 1) fu _ (fun i hi => ?_) (by omega) (by omega)) (fun a g => ⟨fun p hp => (g.1 p hp).trans (up_off hp), g.2⟩)
      by_cases z : i = r
      · rw [z, up_eq]
      · rw [up_k z]; exact h i (by omega)
    · have hc : ¬ r < 8 := fun z => c ((nI_ltI (by omega) (by decide)).mpr z)
      exact ws ⟨fun _ _ => rfl, fun i hi => h i (by omega)⟩
theorem E_48 {q : Nat} : ∀ (n r fu : Nat) (s : sg), (∀ i, i < r → s (q + 6) i = nI 2) → r + n = 5 → n < fu → wp (H_empty_48 q fu (nI r) s) (fun s' => (∀ p, p ≠ q + 7 → p ≠ q + 6 → s' p = s p) ∧ (∀ i, i < 5 → s' (q + 6) i = nI 2) ∧ ∀ i, i < 8 → s' (q + 7) i = nI 10)
  | n, r, 0, s, h, hr, hf => absurd hf (by omega)
  | n, r, fu + 1, s, h, hr, hf => by
    rw [H_empty_48]
    refine wi (fun c => ?_) (fun c => ?_)
    · have hc := (nI_ltI (by omega) (by decide)).mp c
      refine wm rfl (by omega) (by decide) (wsb ?_)
      rw [nI_add]
      refine wc (E_48 (n - 1) (r + 1) fu _ (fun i hi => ?_) (by omega) (by omega)) (fun a g => ⟨fun p hp hp2 => (g.1 p hp hp2).trans (up_off hp2), g.2⟩)
      by_cases z : i = r
      · rw [z, up_eq]
      · rw [up_k z]; exact h i (by omega)
    · have hc : ¬ r < 5 := fun z => c ((nI_ltI (by omega) (by decide)).mpr z)
      refine wc (E_68 8 0 FU s (fun i hi => absurd hi (by omega)) (by omega) (by decide)) (fun a g => ⟨fun p hp _ => g.1 p hp, fun i hi => ?_, g.2⟩)
      rw [g.1 (q + 6) (by omega)]; exact h i (by omega)
theorem E_27 {q : Nat} : ∀ (n r fu : Nat) (s : sg), (∀ i, i < r → s (q + 4) i = -1) → r + n = 6 → n < fu → wp (H_empty_27 q fu (nI r) s) (fun s' => (∀ p, p ≠ q + 7 → p ≠ q + 6 → p ≠ q + 4 → s' p = s p) ∧ (∀ i, i < 6 → s' (q + 4) i = -1) ∧ (∀ i, i < 5 → s' (q + 6) i = nI 2) ∧ ∀ i, i < 8 → s' (q + 7) i = nI 10)
  | n, r, 0, s, h, hr, hf => absurd hf (by omega)
  | n, r, fu + 1, s, h, hr, hf => by
    rw [H_empty_27]
    refine wi (fun c => ?_) (fun c => ?_)
    · have hc := (nI_ltI (by omega) (by decide)).mp c
      refine wm rfl (by omega) (by decide) (wsb ?_)
      rw [nI_add]
      refine wc (E_27 (n - 1) (r + 1) fu _ (fun i hi => ?_) (by omega) (by omega)) (fun a g => ⟨fun p hp hp2 hp3 => (g.1 p hp hp2 hp3).trans (up_off hp3), g.2⟩)
      by_cases z : i = r
      · rw [z, up_eq]
      · rw [up_k z]; exact h i (by omega)
    · have hc : ¬ r < 6 := fun z => c ((nI_ltI (by omega) (by decide)).mpr z)
      refine wc (E_48 5 0 FU s (fun i hi => absurd hi (by omega)) (by omega) (by decide)) (fun a g => ⟨fun p hp hp2 _ => g.1 p hp hp2, fun i hi => ?_, g.2⟩)
      rw [g.1 (q + 4) (by omega) (by omega)]; exact h i (by omega)
theorem E_empty {q : Nat} : wp (H_empty q s) (fun s' => offH q s s' ∧ (∀ k, k < 5 → s' q k = nI 0) ∧ (∀ i, i < 6 → s' (q + 4) i = -1) ∧ (∀ i, i < 5 → s' (q + 6) i = nI 2) ∧ ∀ i, i < 8 → s' (q + 7) i = nI 10) := by
  unfold H_empty
  refine wsb (wsb (wsb (wsb (wsb ?_))))
  refine wc (E_27 6 0 FU _ (fun i hi => absurd hi (by omega)) (by omega) (by decide)) (fun s' g => ⟨fun p hp => ?_, fun k hk => ?_, g.2⟩)
  · rw [g.1 p (by omega) (by omega) (by omega), up_off (by omega), up_off (by omega), up_off (by omega), up_off (by omega), up_off (by omega)]
  · rw [g.1 q (by omega) (by omega) (by omega)]
    have hk' : k = 0 ∨ k = 1 ∨ k = 2 ∨ k = 3 ∨ k = 4 := by omega
    rcases hk' with rfl | rfl | rfl | rfl | rfl
    · rw [up_k (by decide), up_k (by decide), up_k (by decide), up_k (by decide), up_eq]
    · rw [up_k (by decide), up_k (by decide), up_k (by decide), up_eq]
    · rw [up_k (by decide), up_k (by decide), up_eq]
    · rw [up_k (by decide), up_eq]
    · rw [up_eq]
theorem tok_pos {p : Nat} (h : ¬ tkS b L p = nI 0) (nb : ¬ badT b L p) (hp : p ≤ L) : stV b L p < tkE b L p := by
  have h1 := tkS_lt h
  have hle := stV_le (b := b) hp
  have h4 : tkS b L p = nI 1 ∨ tkS b L p = nI 2 ∨ tkS b L p = nI 3 := by
    have h5 : ¬ tkS b L p = nI 4 := fun w => nb (Or.inl w)
    unfold tkS at h5 ⊢
    rw [if_pos h1] at h5 ⊢
    unfold srV at h5 ⊢
    by_cases c1 : ¬ b (stV b L p) < nI 97 ∧ ¬ nI 122 < b (stV b L p)
    · rw [if_pos c1]; exact Or.inl rfl
    · rw [if_neg c1] at h5 ⊢
      by_cases c2 : ¬ b (stV b L p) < nI 48 ∧ ¬ nI 57 < b (stV b L p)
      · rw [if_pos c2]; exact Or.inr (Or.inl rfl)
      · rw [if_neg c2] at h5 ⊢
        by_cases c3 : b (stV b L p) = nI 59
        · rw [if_pos c3]; exact Or.inr (Or.inr rfl)
        · rw [if_neg c3] at h5; exact absurd rfl h5
  have run : ∀ k : Int32, tkS b L p = k → stV b L p < rnV b k (L - stV b L p) (stV b L p) := fun k hk => by
    obtain ⟨m, hm⟩ : ∃ m, L - stV b L p = m + 1 := ⟨L - stV b L p - 1, by omega⟩
    rw [hm, rnV]
    have e : srV (b (stV b L p)) = k := by
      rw [← hk]; unfold tkS; rw [if_pos h1]
    rw [if_pos e]
    have := rnV_le (b := b) (k := k) m (stV b L p + 1)
    omega
  unfold tkE
  rcases h4 with e | e | e
  · rw [if_pos (Or.inl e)]; exact run _ rfl
  · rw [if_pos (Or.inr e)]; exact run _ rfl
  · rw [if_neg (by rw [e]; decide), if_pos e]; omega
theorem Z_34 {T : sg} : ∀ (n q fu : Nat) (t : sg), (∀ k, k < q → t 12 k = nI 0) → (∀ p k, p ≠ 12 → t p k = T p k) → q + n = 52 → n < fu → ∃ t1, M_text_34 x1 fu (nI q) t = ((M_step t1).bind fun s1 => M_text_57 FU x1 s1) ∧ (∀ k, k < 52 → t1 12 k = nI 0) ∧ (∀ p k, p ≠ 12 → t1 p k = T p k)
  | n, q, 0, t, h, o, hr, hf => absurd hf (by omega)
  | n, q, fu + 1, t, h, o, hr, hf => by
    rw [M_text_34]
    by_cases c : q < 52
    · rw [if_pos ((nI_ltI (by omega) (by decide)).mpr c), midx_nI c (by decide)]
      have e : ((some q).bind fun j1 => (some (up t 12 j1 (nI 0))).bind fun s2 => M_text_34 x1 fu (nI q + nI 1) s2) = M_text_34 x1 fu (nI (q + 1)) (up t 12 q (nI 0)) := by rw [nI_add]; rfl
      rw [e]
      refine Z_34 (n - 1) (q + 1) fu _ (fun k hk => ?_) (fun p k hp => (up_p hp).trans (o p k hp)) (by omega) (by omega)
      by_cases z : k = q
      · rw [z, up_eq]
      · rw [up_k z]; exact h k (by omega)
    · rw [if_neg (fun z => c ((nI_ltI (by omega) (by decide)).mp z))]
      exact ⟨t, rfl, fun k hk => h k (by omega), o⟩
end TOLD
