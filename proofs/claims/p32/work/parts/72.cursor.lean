/-! where both stand in the text -/
theorem wan {α : Type} {o : Option α} {P Q : α → Prop} (h : wp o P) (k : wp o Q) : wp o (fun a => P a ∧ Q a) := by
  obtain ⟨a, e, p⟩ := h
  obtain ⟨a', e', q⟩ := k
  rw [e] at e'
  cases e'
  exact ⟨a, e, p, q⟩
def BS (b : Nat → Int32) (L : Nat) (s0 s t : sg) : Prop := TQ s0 L s ∧ (∀ i, i < L → s 28 i = b i) ∧ (∃ q bb rr, TX t L q bb rr) ∧ TB b L t
def XC (b : Nat → Int32) (L : Nat) (s t : sg) : Prop := (s 27 3 = 0 ∧ ∃ p, p ≤ L ∧ s 27 8 = nI p ∧ ¬ badT b L p ∧ CR b L p t) ∨ (¬ t 10 10 = 0 ∧ ((s 27 3 = 0 ∧ ∃ p, p ≤ L ∧ s 27 8 = nI p ∧ badT b L p ∧ t 10 11 = nI (stV b L p)) ∨ (¬ s 27 3 = 0 ∧ s 27 4 = t 10 11)))
def XA (b : Nat → Int32) (L : Nat) (s t : sg) : Prop := (s 27 3 = 0 ∧ ∃ p, p ≤ L ∧ ¬ badT b L p ∧ CR b L p t ∧ s 27 6 = tkS b L p ∧ s 27 7 = nI (stV b L p) ∧ s 27 8 = nI (tkE b L p)) ∨ (¬ s 27 3 = 0 ∧ ¬ t 10 10 = 0 ∧ s 27 4 = t 10 11)
def FM (t t' : sg) : Prop := ¬ t 10 10 = 0 → t' 10 10 = t 10 10 ∧ t' 10 11 = t 10 11
theorem FM.rf {t : sg} : FM t t := fun _ => ⟨rfl, rfl⟩
theorem FM.tr {t t' t'' : sg} (h1 : FM t t') (h2 : FM t' t'') : FM t t'' := fun h => by
  obtain ⟨a, c⟩ := h1 h
  obtain ⟨a2, c2⟩ := h2 (by rw [a]; exact h)
  exact ⟨a2.trans a, c2.trans c⟩
section CURSOR
variable {s t s0 : sg} {b : Nat → Int32} {L p rr : Nat} {x x1 x2 x3 v : Int32}
theorem BS.l (B : BS b L s0 s t) : L ≤ 160 := B.1.1.2.1
theorem BS.eL (B : BS b L s0 s t) : s 27 1 = nI L := B.1.1.1
theorem BS.c {s' : sg} (B : BS b L s0 s t) (k : keepC s s') (C : CU s' L) : BS b L s0 s' t := ⟨B.1.c k C, fun i hi => (k 28 i (by omega)).trans (B.2.1 i hi), B.2.2⟩
theorem BS.f {s' : sg} (B : BS b L s0 s t) (k : keepF s s') : BS b L s0 s' t := ⟨B.1.f k, fun i hi => (k 28 i (by omega)).trans (B.2.1 i hi), B.2.2⟩
theorem BS.tt {t' : sg} (B : BS b L s0 s t) (k : offK t t') (X : ∃ q bb rr, TX t' L q bb rr) : BS b L s0 s t' := ⟨B.1, B.2.1, X, B.2.2.2.k k⟩
theorem XA.fl (h : ¬ t 10 10 = 0) (X : XA b L s t) : ¬ s 27 3 = 0 ∧ s 27 4 = t 10 11 := by
  rcases X with ⟨_, p, _, _, C, _⟩ | ⟨h1, _, h3⟩
  · exact absurd C.1 h
  · exact ⟨h1, h3⟩
/-- the class reads its next token; the reference has it -/
theorem K_tokA (B : BS b L s0 s t) (X : XC b L s t) : wp (T_nextToken s) (fun s' => keepC s s' ∧ BS b L s0 s' t ∧ XA b L s' t) := by
  obtain ⟨p', e8', hp'⟩ := B.1.1.2.2.2.bh
  refine wc (wan (K_next (b := b) B.l B.eL B.2.1 e8' hp') B.1.tok) (fun s' h => ⟨h.1.1, B.c h.1.1 h.2.1.2.2.2, ?_⟩)
  obtain ⟨⟨_, e7, e8, fk, good, bad⟩, _⟩ := h
  have same : ∀ p, p ≤ L → s 27 8 = nI p → p = p' := fun p hp e => by
    have h1 := B.l
    rw [e8', nI_eq (by omega) (by omega)] at e
    exact e.symm
  rcases X with ⟨h3, p, hp, e, nb, C⟩ | ⟨h1, ⟨h3, p, hp, e, nb, z⟩ | ⟨h3, h4⟩⟩
  · obtain rfl := same p hp e
    exact Or.inl ⟨(good nb).2 h3, p, hp, nb, C, (good nb).1, e7, e8⟩
  · obtain rfl := same p hp e
    exact Or.inr ⟨(bad nb h3).1, h1, (bad nb h3).2.trans z.symm⟩
  · obtain ⟨f1, f2⟩ := fk h3
    exact Or.inr ⟨by rw [f1]; exact h3, h1, f2.trans h4⟩
theorem TX.at {q bb : Nat} (X : TX t L q bb rr) (hp : p ≤ L) (e : t 10 12 = nI p) (e0 : t 10 10 = nI 0) : TX t L p 0 rr := by
  have h1 := X.l2
  have h2 := X.p2
  have h3 := X.b2
  have e1 : q = p := by
    have h := X.p
    rw [e, nI_eq (by omega) (by omega)] at h
    exact h.symm
  have e2 : bb = 0 := by
    have h := X.b
    rw [e0, nI_eq (by omega) (by omega)] at h
    exact h.symm
  subst e1
  subst e2
  exact X
/-- the reference steps on -/
theorem R_stepC (B : BS b L s0 s t) (X : XA b L s t) : wp (M_step t) (fun t' => offK t t' ∧ BS b L s0 s t' ∧ XC b L s t' ∧ FM t t' ∧ (t' 10 10 = nI 0 → t 10 10 = nI 0)) := by
  obtain ⟨q, bb, rr, T⟩ := B.2.2.1
  rcases X with ⟨h3, p, hp, nb, C, e6, e7, e8⟩ | ⟨h3, h1, h4⟩
  · have hE := tkE_le (b := b) hp
    have T' : TX t L (tkE b L p) 0 rr := T.at hE.2 C.2.2.1 C.1
    refine wc (wan (R_step T' B.2.2.2) (V_step T')) (fun t' h => ?_)
    obtain ⟨⟨o, good, bad⟩, q', b', T2, _⟩ := h
    refine ⟨o, B.tt o ⟨q', b', rr, T2⟩, ?_, fun w => absurd C.1 w, fun _ => C.1⟩
    by_cases c : badT b L (tkE b L p)
    · exact Or.inr ⟨(bad c).1, Or.inl ⟨h3, _, hE.2, e8, c, (bad c).2⟩⟩
    · exact Or.inl ⟨h3, _, hE.2, e8, c, good c⟩
  · rw [R_step1 T h1]
    exact ws ⟨offK.rf, B, Or.inr ⟨h1, Or.inr ⟨h3, h4⟩⟩, FM.rf, fun w => absurd w h1⟩
def PN (b : Nat → Int32) (L : Nat) (s0 : sg) (M : Nat) (s t : sg) (a c : Int32 × sg) : Prop := keepC s a.2 ∧ offK t c.2 ∧ BS b L s0 a.2 c.2 ∧ XC b L a.2 c.2 ∧ FM t c.2 ∧ (∃ k, k ≤ M ∧ a.1 = nI k) ∧ (∃ k, k ≤ M ∧ c.1 = nI k) ∧ ((a.2 27 3 = 0 ∧ t 10 10 = nI 0 ∧ t 10 14 = nI 2 ∧ a.1 = c.1 ∧ t 10 15 = a.1 ∧ a.2 27 7 = t 10 13) ∨ (¬ a.2 27 3 = 0 ∧ ¬ c.2 10 10 = 0 ∧ (t 10 10 = nI 0 → t 10 14 = nI 2 → ∃ k, M < k ∧ k ≤ 99 ∧ t 10 15 = nI k)))
theorem M_num_f {M q bb : Nat} (X : TX t L q bb rr) (h : ¬ t 10 10 = 0) : M_number (nI 0) (nI M) t = some (nI 0, t) := by
  unfold M_number M_number_20 M_number_47 M_number_62
  rw [if_neg h, if_neg h, if_neg h, R_step1 X h]; rfl
theorem num20_f (h : ¬ t 10 10 = 0) : M_number_20 x1 x2 t = M_number_47 x1 t := by
  unfold M_number_20
  rw [if_neg h]
/-- numbers, told to both -/
theorem K_num {M : Nat} (hM : M < 1000) (B : BS b L s0 s t) (X : XC b L s t) : w2 (T_nextNumber (nI M) s) (M_number (nI 0) (nI M) t) (PN b L s0 M s t) := by
  obtain ⟨q, bb, rr, T⟩ := B.2.2.1
  unfold T_nextNumber
  refine w2bl (K_tokA B X) (fun s1 h1 => ?_)
  obtain ⟨k1, B1, X1⟩ := h1
  have wv := W_tokenValue B1.l B1.1.1.2.2.2
  have h43 : ∀ (y : Int32) (s2 : sg), ¬ s2 27 3 = 0 → T_nextNumber_43 y s2 = some (nI 0, s2) := fun y s2 h => by unfold T_nextNumber_43; rw [if_neg h]
  rcases X1 with ⟨h3, p, hp, nb, C, e6, e7, e8⟩ | ⟨h3, h1, h4⟩
  · have failC : ∀ (c : Nat) (y : Int32), 0 < c → c ≤ 6 → (t 10 14 = nI 2 → ∃ k, M < k ∧ k ≤ 99 ∧ t 10 15 = nI k) → M_number (nI 0) (nI M) t = some (nI 0, up (up t 10 10 (nI c)) 10 11 (nI (stV b L p))) → w2 ((T_fail (nI c) (s1 27 7) s1).bind fun s2 => T_nextNumber_43 y s2) (M_number (nI 0) (nI M) t) (PN b L s0 M s t) := fun c y hc hc6 hval em => by
      rw [em]
      refine w2bl (K_fail hc (by omega)) (fun s2 g => ?_)
      rw [h43 y s2 g.2.1]
      have o : offK t (up (up t 10 10 (nI c)) 10 11 (nI (stV b L p))) := (offK.u (by decide)).tr (offK.u (by decide))
      have T2 : TX (up (up t 10 10 (nI c)) 10 11 (nI (stV b L p))) L q c rr := (T.u10 hc6).u (by decide)
      have f1 : ¬ (up (up t 10 10 (nI c)) 10 11 (nI (stV b L p))) 10 10 = 0 := by rw [up_k (by decide), up_eq]; exact nI_ne0 hc (by omega)
      have f2 : s2 27 4 = (up (up t 10 10 (nI c)) 10 11 (nI (stV b L p))) 10 11 := by rw [up_eq, g.2.2.2 h3]; exact e7
      exact w2s ⟨k1.tr g.1.c, o, (B1.f g.1).tt o ⟨_, _, _, T2⟩, Or.inr ⟨f1, Or.inr ⟨g.2.1, f2⟩⟩, fun w => absurd C.1 w, ⟨0, by omega, rfl⟩, ⟨0, by omega, rfl⟩, Or.inr ⟨g.2.1, f1, fun _ => hval⟩⟩
    have stepF : ∀ c : Nat, 0 < c → c ≤ 6 → M_step (up (up t 10 10 (nI c)) 10 11 (nI (stV b L p))) = some (up (up t 10 10 (nI c)) 10 11 (nI (stV b L p))) := fun c hc hc6 =>
      R_step1 (((T.u10 hc6).u (by decide)) : TX _ L q c rr) (by rw [up_k (by decide), up_eq]; exact nI_ne0 hc (by omega))
    have nz : ∀ c : Nat, 0 < c → c ≤ 6 → ¬ (up (up t 10 10 (nI c)) 10 11 (nI (stV b L p))) 10 10 = 0 := fun c hc hc6 => by rw [up_k (by decide), up_eq]; exact nI_ne0 hc (by omega)
    by_cases c2 : tkS b L p = nI 2
    · rw [K_value B1.l B1.2.1 hp (e6.trans c2) e7 e8] at wv ⊢
      obtain ⟨_, ew, w, hw, evw⟩ := wv
      cases ew
      refine w2sl ?_
      rw [e6, if_pos c2]
      have e15 : t 10 15 = nI w := (C.2.2.2.2 c2).trans evw
      have e14 : t 10 14 = nI 2 := C.2.2.2.1.trans c2
      rw [evw]
      by_cases cm : M < w
      · rw [if_pos ((nI_ltI (by omega) (by omega)).mpr cm)]
        refine failC 3 _ (by decide) (by decide) (fun _ => ⟨w, cm, hw, e15⟩) ?_
        unfold M_number M_number_20
        rw [C.1, if_pos (by decide), e14, if_pos rfl, if_pos (by decide), e15, inP (lo := nI 0) (hi := nI M) rfl rfl, if_neg (fun z => z.2 ((nI_ltI (by omega) (by omega)).mpr cm))]
        show ((M_fails (nI 3) t).bind fun s1 => M_number_47 (nI 0) s1) = _
        rw [M_fails_0 C.1 C.2.1]
        show M_number_47 (nI 0) (up (up t 10 10 (nI 3)) 10 11 (nI (stV b L p))) = _
        unfold M_number_47 M_number_62
        rw [if_neg (nz 3 (by decide) (by decide)), stepF 3 (by decide) (by decide)]; rfl
      · rw [if_neg (fun z => cm ((nI_ltI (by omega) (by omega)).mp z))]
        have e43 : T_nextNumber_43 (nI w) s1 = some (nI w, s1) := by unfold T_nextNumber_43; rw [if_pos h3]
        rw [e43]
        have em : M_number (nI 0) (nI M) t = (M_step t).bind fun s1 => some (nI w, s1) := by
          unfold M_number M_number_20 M_number_47 M_number_62
          rw [C.1, if_pos (by decide), e14, if_pos rfl, if_pos (by decide), e15, inP (lo := nI 0) (hi := nI M) rfl rfl, if_pos ⟨nI_pos (by omega), fun z => cm ((nI_ltI (by omega) (by omega)).mp z)⟩]
          rfl
        rw [em]
        have XA1 : XA b L s1 t := Or.inl ⟨h3, p, hp, nb, C, e6, e7, e8⟩
        refine w2br (R_stepC B1 XA1) (fun t' g => ?_)
        exact w2s ⟨k1, g.1, g.2.1, g.2.2.1, g.2.2.2.1, ⟨w, by omega, rfl⟩, ⟨w, by omega, rfl⟩, Or.inl ⟨h3, C.1, e14, rfl, e15, e7.trans C.2.1.symm⟩⟩
    · refine w2bl wv (fun y _ => ?_)
      rw [e6, if_neg c2]
      refine failC 2 _ (by decide) (by decide) (fun z => absurd (C.2.2.2.1.symm.trans z) c2) ?_
      unfold M_number
      rw [C.1, if_pos (by decide), C.2.2.2.1, if_neg c2, M_fails_0 C.1 C.2.1]
      show M_number_20 (nI 0) (nI M) (up (up t 10 10 (nI 2)) 10 11 (nI (stV b L p))) = _
      rw [num20_f (nz 2 (by decide) (by decide))]
      unfold M_number_47 M_number_62
      rw [if_neg (nz 2 (by decide) (by decide)), stepF 2 (by decide) (by decide)]; rfl
  · rw [M_num_f T h1]
    refine w2bl wv (fun y _ => ?_)
    have fin : ∀ s2 : sg, keepF s1 s2 → FK s1 s2 → w2 (T_nextNumber_43 y s2) (some (nI 0, t)) (PN b L s0 M s t) := fun s2 k2 fk => by
      obtain ⟨g1, g2⟩ := fk h3
      have hn : ¬ s2 27 3 = 0 := by rw [g1]; exact h3
      rw [h43 y s2 hn]
      exact w2s ⟨k1.tr k2.c, offK.rf, B1.f k2, Or.inr ⟨h1, Or.inr ⟨hn, g2.trans h4⟩⟩, FM.rf, ⟨0, by omega, rfl⟩, ⟨0, by omega, rfl⟩, Or.inr ⟨hn, h1, fun w => absurd w h1⟩⟩
    refine w2il (fun _ => w2il (fun _ => ?_) (fun _ => fin s1 keepF.rf FK.rf)) (fun _ => ?_)
    · exact w2bl (K_fail (by decide) (by decide)) (fun s2 g => fin s2 g.1 g.2.2.1)
    · exact w2bl (K_fail (by decide) (by decide)) (fun s2 g => fin s2 g.1 g.2.2.1)
/-- the end of a line -/
def refFin (t : sg) : Option sg := if t 10 10 = 0 then (if t 10 14 = nI 3 then M_readLine_119 t else (M_fails (nI 2) t).bind fun s4 => M_readLine_119 s4) else M_readLine_119 t
def PF (b : Nat → Int32) (L : Nat) (s0 s t s' t' : sg) : Prop := keepC s s' ∧ offK t t' ∧ BS b L s0 s' t' ∧ XC b L s' t' ∧ FM t t' ∧ (t' 10 10 = nI 0 → t 10 10 = nI 0)
theorem K_finA (B : BS b L s0 s t) (X : XA b L s t) : w2 (T_tellOut_74 s) (refFin t) (PF b L s0 s t) := by
  obtain ⟨q, bb, rr, T⟩ := B.2.2.1
  unfold T_tellOut_74 refFin M_readLine_119
  rcases X with ⟨h3, p, hp, nb, C, e6, e7, e8⟩ | ⟨h3, h1, h4⟩
  · rw [C.1, if_pos (show nI 0 = 0 from rfl), e6, C.2.2.2.1]
    refine w2i (fun c => ?_) (fun c => ?_)
    · refine w2br (R_stepC B (Or.inl ⟨h3, p, hp, nb, C, e6, e7, e8⟩)) (fun t' g => w2s ⟨keepC.rf, g⟩)
    · rw [M_fails_0 C.1 C.2.1]
      refine w2bl (K_fail (by decide) (by decide)) (fun s2 g => w2sr ?_)
      have o : offK t (up (up t 10 10 (nI 2)) 10 11 (nI (stV b L p))) := (offK.u (by decide)).tr (offK.u (by decide))
      have T2 : TX (up (up t 10 10 (nI 2)) 10 11 (nI (stV b L p))) L q 2 rr := (T.u10 (by decide)).u (by decide)
      have f1 : ¬ (up (up t 10 10 (nI 2)) 10 11 (nI (stV b L p))) 10 10 = 0 := by rw [up_k (by decide), up_eq]; decide
      rw [R_step1 T2 f1]
      exact w2sr (w2s ⟨g.1.c, o, (B.f g.1).tt o ⟨_, _, _, T2⟩, Or.inr ⟨f1, Or.inr ⟨g.2.1, by rw [up_eq, g.2.2.2 h3]; exact e7⟩⟩, fun w => absurd C.1 w, fun _ => C.1⟩)
  · rw [if_neg h1, R_step1 T h1]
    refine w2sr (w2il (fun _ => w2s ⟨keepC.rf, offK.rf, B, Or.inr ⟨h1, Or.inr ⟨h3, h4⟩⟩, FM.rf, fun w => absurd w h1⟩) (fun _ => ?_))
    refine w2bl (K_fail (by decide) (by decide)) (fun s2 g => ?_)
    obtain ⟨g1, g2⟩ := g.2.2.1 h3
    exact w2s ⟨g.1.c, offK.rf, B.f g.1, Or.inr ⟨h1, Or.inr ⟨g.2.1, g2.trans h4⟩⟩, FM.rf, fun w => absurd w h1⟩
theorem K_fin (B : BS b L s0 s t) (X : XC b L s t) : w2 (T_endLine s) (refFin t) (PF b L s0 s t) := by
  unfold T_endLine
  refine w2bl (K_tokA B X) (fun s1 h1 => ?_)
  exact (K_finA h1.2.1 h1.2.2).c (fun a c g => ⟨h1.1.tr g.1, g.2⟩)
end CURSOR
