/-! a whole text, told to both -/
section TEXTJ
variable {s t s' t' s0 : sg} {b : Nat → Int32} {L R : Nat} {x x1 x2 x3 v v1 v2 v3 y : Int32}
/-- what findMissing leaves -/
def QM (L : Nat) (P : Prop) (s s' : sg) : Prop := keepF s s' ∧ FK s s' ∧ (P → s 27 3 = 0 → ¬ s' 27 3 = 0 ∧ s' 27 4 = nI L) ∧ (¬ P → s' = s)
theorem QM.step {P Q : Prop} {s1 s2 : sg} (h1 : QM L P s s1) (h2 : QM L Q s1 s2) : QM L (P ∨ Q) s s2 := by
  refine ⟨?_, h1.2.1.tr h2.2.1, fun w z => ?_, fun w => ?_⟩
  · exact fun p k hp => (h2.1 p k hp).trans (h1.1 p k hp)
  · by_cases c : P
    · obtain ⟨u1, u2⟩ := h1.2.2.1 c z
      obtain ⟨f1, f2⟩ := h2.2.1 u1
      exact ⟨by rw [f1]; exact u1, f2.trans u2⟩
    · obtain rfl := h1.2.2.2 c
      exact h2.2.2.1 (w.resolve_left c) z
  · obtain rfl := h1.2.2.2 (fun z => w (Or.inl z))
    exact h2.2.2.2 (fun z => w (Or.inr z))
theorem QM.iff {P Q : Prop} (h : QM L P s s') (e : P ↔ Q) : QM L Q s s' := ⟨h.1, h.2.1, fun w => h.2.2.1 (e.mpr w), fun w => h.2.2.2 (fun z => w (e.mp z))⟩
theorem QM.no (s : sg) : QM L False s s := ⟨keepF.rf, FK.rf, fun w => w.elim, fun _ => rfl⟩
theorem K_f6 (eL : s 27 1 = nI L) : wp (T_fail (nI 6) (s 27 1) s) (QM L True s) := by
  refine wc (K_fail (by decide) (by decide)) (fun s' g => ⟨g.1, g.2.2.1, fun _ z => ⟨g.2.1, (g.2.2.2 z).trans eL⟩, fun w => absurd trivial w⟩)
def bitW (s : sg) (w : Nat) : Prop := ((s 27 10) >>> (nI w &&& 31)) &&& (nI 1) = nI 1
theorem F_43 (hR : R ≤ 6) : ∀ (n w fu : Nat) (s : sg), s 27 1 = nI L → s 29 0 = nI R → w + n = 5 → n < fu → wp (T_findMissing_43 fu (nI w) s) (QM L (∃ u, w ≤ u ∧ u < 5 ∧ bitW s u ∧ ¬ u + 1 < R) s)
  | n, w, 0, s, eL, eR, hr, hf => absurd hf (by omega)
  | n, w, fu + 1, s, eL, eR, hr, hf => by
    rw [T_findMissing_43]
    refine wi (fun c => ?_) (fun c => ?_)
    · have hw := (nI_ltI (by omega) (by decide)).mp c
      obtain ⟨n, rfl⟩ : ∃ m, n = m + 1 := ⟨n - 1, by omega⟩
      rw [nI_add]
      have next : ∀ (P : Prop) (s1 : sg), QM L P s s1 → ((P ∨ ∃ u, w + 1 ≤ u ∧ u < 5 ∧ bitW s u ∧ ¬ u + 1 < R) ↔ ∃ u, w ≤ u ∧ u < 5 ∧ bitW s u ∧ ¬ u + 1 < R) → wp (T_findMissing_43 fu (nI (w + 1)) s1) (QM L (∃ u, w ≤ u ∧ u < 5 ∧ bitW s u ∧ ¬ u + 1 < R) s) := fun P s1 q e => by
        refine wc (F_43 hR n (w + 1) fu s1 ((q.1 27 1 (by omega)).trans eL) ((q.1 29 0 (by omega)).trans eR) (by omega) (by omega)) (fun s2 g => ?_)
        have e2 : ∀ u, bitW s1 u ↔ bitW s u := fun u => by unfold bitW; rw [q.1 27 10 (by omega)]
        have g' : QM L (∃ u, w + 1 ≤ u ∧ u < 5 ∧ bitW s u ∧ ¬ u + 1 < R) s1 s2 := g.iff ⟨fun ⟨u, a1, a2, a3, a4⟩ => ⟨u, a1, a2, (e2 u).mp a3, a4⟩, fun ⟨u, a1, a2, a3, a4⟩ => ⟨u, a1, a2, (e2 u).mpr a3, a4⟩⟩
        exact (q.step g').iff e
      have skip : ¬ (bitW s w ∧ ¬ w + 1 < R) → wp (T_findMissing_43 fu (nI (w + 1)) s) (QM L (∃ u, w ≤ u ∧ u < 5 ∧ bitW s u ∧ ¬ u + 1 < R) s) := fun h => by
        refine next False s (QM.no s) ⟨fun z => ?_, fun ⟨u, a1, a2, a3, a4⟩ => ?_⟩
        · rcases z with z | ⟨u, a1, a2, a3, a4⟩
          · exact z.elim
          · exact ⟨u, by omega, a2, a3, a4⟩
        · by_cases cu : u = w
          · subst cu
            exact absurd ⟨a3, a4⟩ h
          · exact Or.inr ⟨u, by omega, a2, a3, a4⟩
      refine wi (fun d => ?_) (fun d => skip (fun z => d z.1))
      have eW : H_hasWall 29 (nI w) s = some (if w + 1 < R then nI 1 else nI 0) := by
        unfold H_hasWall
        rw [if_neg (nI_pos (by omega)), eR]
        by_cases f : w + 1 < R
        · rw [if_pos ((nI_m1 (by omega) (by omega)).mpr f), if_pos f]
        · rw [if_neg (fun z => f ((nI_m1 (by omega) (by omega)).mp z)), if_neg f]
      refine wbP eW (fun f => ?_) (fun f => skip (fun z => z.2 f))
      refine wb (K_f6 eL) (fun s1 q => next True s1 q ⟨fun _ => ⟨w, Nat.le_refl _, hw, d, f⟩, fun _ => Or.inl trivial⟩)
    · have hw : ¬ w < 5 := fun z => c ((nI_ltI (by omega) (by decide)).mpr z)
      exact ws ((QM.no s).iff ⟨fun z => z.elim, fun ⟨u, a1, a2, _⟩ => by omega⟩)
theorem F_8 (hR : R ≤ 6) : ∀ (n r fu : Nat) (s : sg), s 27 1 = nI L → s 29 0 = nI R → r + n = 6 → n < fu → wp (T_findMissing_8 fu (nI r) s) (QM L ((∃ u, r ≤ u ∧ u < 6 ∧ ¬ s 33 u = -1) ∨ ∃ u, 0 ≤ u ∧ u < 5 ∧ bitW s u ∧ ¬ u + 1 < R) s)
  | n, r, 0, s, eL, eR, hr, hf => absurd hf (by omega)
  | n, r, fu + 1, s, eL, eR, hr, hf => by
    rw [T_findMissing_8]
    refine wi (fun c => ?_) (fun c => ?_)
    · have hw := (nI_ltI (by omega) (by decide)).mp c
      obtain ⟨n, rfl⟩ : ∃ m, n = m + 1 := ⟨n - 1, by omega⟩
      rw [nI_add]
      have next : ∀ (P : Prop) (s1 : sg), QM L P s s1 → ((P ∨ ∃ u, r + 1 ≤ u ∧ u < 6 ∧ ¬ s 33 u = -1) ↔ ∃ u, r ≤ u ∧ u < 6 ∧ ¬ s 33 u = -1) → wp (T_findMissing_8 fu (nI (r + 1)) s1) (QM L ((∃ u, r ≤ u ∧ u < 6 ∧ ¬ s 33 u = -1) ∨ ∃ u, 0 ≤ u ∧ u < 5 ∧ bitW s u ∧ ¬ u + 1 < R) s) := fun P s1 q e => by
        refine wc (F_8 hR n (r + 1) fu s1 ((q.1 27 1 (by omega)).trans eL) ((q.1 29 0 (by omega)).trans eR) (by omega) (by omega)) (fun s2 g => ?_)
        have e2 : ∀ u, bitW s1 u ↔ bitW s u := fun u => by unfold bitW; rw [q.1 27 10 (by omega)]
        have e3 : ∀ u, s1 33 u = s 33 u := fun u => q.1 33 u (by omega)
        have g' : QM L ((∃ u, r + 1 ≤ u ∧ u < 6 ∧ ¬ s 33 u = -1) ∨ ∃ u, 0 ≤ u ∧ u < 5 ∧ bitW s u ∧ ¬ u + 1 < R) s1 s2 := g.iff ⟨fun z => z.elim (fun ⟨u, a1, a2, a3⟩ => Or.inl ⟨u, a1, a2, by rw [← e3 u]; exact a3⟩) (fun ⟨u, a1, a2, a3, a4⟩ => Or.inr ⟨u, a1, a2, (e2 u).mp a3, a4⟩), fun z => z.elim (fun ⟨u, a1, a2, a3⟩ => Or.inl ⟨u, a1, a2, by rw [e3 u]; exact a3⟩) (fun ⟨u, a1, a2, a3, a4⟩ => Or.inr ⟨u, a1, a2, (e2 u).mpr a3, a4⟩)⟩
        refine (q.step g').iff ⟨fun z => ?_, fun z => ?_⟩
        · rcases z with z | z | z
          · exact Or.inl (e.mp (Or.inl z))
          · exact Or.inl (e.mp (Or.inr z))
          · exact Or.inr z
        · rcases z with z | z
          · exact (e.mpr z).elim Or.inl (fun w => Or.inr (Or.inl w))
          · exact Or.inr (Or.inr z)
      refine wbP (hasT29 (by omega)) (fun f => ?_) (fun f => ?_)
      · refine next False s (QM.no s) ⟨fun z => ?_, fun ⟨u, a1, a2, a3⟩ => ?_⟩
        · rcases z with z | ⟨u, a1, a2, a3⟩
          · exact z.elim
          · exact ⟨u, by omega, a2, a3⟩
        · by_cases cu : u = r
          · subst cu
            exact absurd a3 f
          · exact Or.inr ⟨u, by omega, a2, a3⟩
      · exact wb (K_f6 eL) (fun s1 q => next True s1 q ⟨fun _ => ⟨r, Nat.le_refl _, hw, f⟩, fun _ => Or.inl trivial⟩)
    · have hw : ¬ r < 6 := fun z => c ((nI_ltI (by omega) (by decide)).mpr z)
      refine wc (F_43 hR 5 0 FU s eL eR (by omega) (by decide)) (fun s2 g => g.iff ⟨fun z => Or.inr z, fun z => z.elim (fun ⟨u, a1, a2, _⟩ => by omega) id⟩)
theorem DR.miss (D : DR s t R) : ((∃ u, R ≤ u ∧ u < 6 ∧ ¬ s 33 u = -1) ∨ ∃ u, 0 ≤ u ∧ u < 5 ∧ bitW s u ∧ ¬ u + 1 < R) ↔ ¬ t 10 6 < t 10 3 := by
  obtain ⟨m, hz, m1, m2, m3, m4, m5, m6, m7, m8⟩ := D.2.2.2.2.2.2.2.2.1
  have hR := D.1.2.1
  have e : (t 10 6 < t 10 3) ↔ hz ≤ R := by
    rw [m5, D.1.2.2, Int32.lt_iff_toInt_lt, pk_sub_toInt (by omega) (by decide), nI_toInt (by omega)]
    omega
  have eb : ∀ u, u < 5 → (bitW s u ↔ m / 2 ^ u % 2 = 1) := fun u hu => by
    unfold bitW
    rw [m3, bt_sh m (by omega) u (by omega), nI_eq (by omega) (by decide)]
  rw [e]
  constructor
  · rintro (⟨u, a1, a2, a3⟩ | ⟨u, a1, a2, a3, a4⟩)
    · have := m6 u a2 ((D.no (by omega)).mp a3)
      omega
    · have := m7 u a2 ((eb u a2).mp a3)
      omega
  · intro h
    rcases m8 with q | q | ⟨q1, q2⟩
    · omega
    · exact Or.inl ⟨hz - 1, by omega, by omega, (D.no (by omega)).mpr q⟩
    · exact Or.inr ⟨hz - 2, by omega, by omega, (eb _ (by omega)).mpr q2, by omega⟩
def succT (T c : sg) : Prop := (∀ k, k < 52 → c 11 k = T 12 k) ∧ c 10 1 = T 10 3 ∧ c 10 22 = nI 0 ∧ c 19 0 = nI 0 ∧ c 19 1 = nI 0 ∧ ∀ p k, ¬ (p = 11 ∧ k < 52) → ¬ (p = 10 ∧ (k = 1 ∨ k = 22 ∨ k = 8 ∨ k = 9)) → p ≠ 19 → c p k = T p k
theorem E_135 {T : sg} : ∀ (n q fu : Nat) (t : sg), (∀ k, k < q → t 11 k = T 12 k) → (∀ k, t 12 k = T 12 k) → (∀ p k, ¬ (p = 11 ∧ k < 52) → ¬ (p = 10 ∧ (k = 8 ∨ k = 9)) → t p k = T p k) → q + n = 52 → n < fu → wp (M_text_135 x1 fu (nI q) t) (fun c => c.1 = x1 ∧ succT T c.2 ∧ c.2 10 8 = t 10 8)
  | n, q, 0, t, h1, h2, o, hr, hf => absurd hf (by omega)
  | n, q, fu + 1, t, h1, h2, o, hr, hf => by
    rw [M_text_135]
    refine wi (fun c => ?_) (fun c => ?_)
    · have hc := (nI_ltI (by omega) (by decide)).mp c
      obtain ⟨n, rfl⟩ : ∃ m, n = m + 1 := ⟨n - 1, by omega⟩
      refine wm rfl (by omega) (by decide) (wm rfl (by omega) (by decide) (wsb ?_))
      rw [nI_add]
      refine wc (E_135 n (q + 1) fu _ (fun k hk => ?_) (fun k => (up_p (by decide)).trans (h2 k)) (fun p k a1 a2 => ?_) (by omega) (by omega)) (fun a g => ⟨g.1, g.2.1, g.2.2.trans (up_p (by decide))⟩)
      · by_cases z : k = q
        · rw [z, up_eq]; exact h2 q
        · rw [up_k z]; exact h1 k (by omega)
      · rw [up, if_neg (fun w => a1 ⟨w.1, by omega⟩)]; exact o p k a1 a2
    · have hq : q = 52 := by
        have : ¬ q < 52 := fun z => c ((nI_ltI (by omega) (by decide)).mpr z)
        omega
      subst hq
      have k0 : vp_nar .boolean (nI 0) = nI 0 := by decide
      rw [k0]
      refine wsb (wsb (wm rfl (by decide) (by decide) (wsb (wm rfl (by decide) (by decide) (wsb (ws ⟨rfl, ⟨fun k hk => ?_, ?_, ?_, ?_, ?_, fun p k a1 a2 a3 => ?_⟩, ?_⟩))))))
      all_goals dsimp only
      · rw [up_p (by decide), up_p (by decide), up_p (by decide), up_p (by decide)]; exact h1 k hk
      · rw [up_p (by decide), up_p (by decide), up_k (by decide), up_eq]; exact o 10 3 (by omega) (by omega)
      · rw [up_p (by decide), up_p (by decide), up_eq]
      · rw [up_k (by decide), up_eq]
      · rw [up_eq]
      · rw [up, if_neg (fun w => a3 w.1), up, if_neg (fun w => a3 w.1), up, if_neg (fun w => a2 ⟨w.1, by omega⟩), up, if_neg (fun w => a2 ⟨w.1, by omega⟩)]
        exact o p k a1 (fun w => a2 ⟨w.1, by omega⟩)
      · rw [up_p (by decide), up_p (by decide), up_k (by decide), up_k (by decide)]
def PT (b : Nat → Int32) (L : Nat) (s0 t : sg) (a c : Int32 × sg) : Prop := offL s0 a.2 ∧ c.2 10 8 = nI 0 ∧ ((a.1 = nI 0 ∧ c.1 = -10 - a.2 27 4 ∧ offX t c.2) ∨ (a.1 = nI 1 ∧ c.1 = a.2 27 5 ∧ ∃ (R : Nat) (T : sg), DR a.2 T R ∧ offLn t T ∧ succT T c.2))
theorem K_88 {i : Nat} (B : BS b L s0 s t) (X : XA b L s t) (D : t 10 10 = nI 0 → ∃ R, DR s t R) (h6 : s 27 3 = 0 → s 27 6 = nI 0) (e5 : s 27 5 = nI i) : w2 (T_tell_88 s) (M_text_81 (nI i) t) (PT b L s0 t) := by
  obtain ⟨R', H⟩ := B.1.1.2.2.1
  obtain ⟨q, bb, rr, T⟩ := B.2.2.1
  unfold T_tell_88 T_findMissing
  rw [H.1]
  refine w2bl (F_8 (R := R') H.2.1 (6 - R') R' FU s B.eL H.1 (by have := H.2.1; omega) (by show 6 - R' < 100000; omega)) (fun s1 g => ?_)
  have oL : offL s0 s1 := fun p hp => by
    have h1 := B.1.2 p hp
    rw [← h1]
    funext k
    exact g.1 p k (fun w => hp (Or.inl w.1))
  have bad : ∀ t1 : sg, offK t t1 → ¬ t1 10 10 = 0 → (∃ q bb rr, TX t1 L q bb rr) → s1 27 4 = t1 10 11 → ¬ s1 27 3 = 0 → w2 (if s1 27 3 = 0 then some (nI 1, s1) else some (nI 0, s1)) (M_text_105 (nI i) t1) (PT b L s0 t) := fun t1 o nz ⟨q1, b1, r1, T1⟩ e4 n3 => by
    rw [if_neg n3]
    unfold M_text_105
    have hpos : 0 < t1 10 10 := by
      have hb := T1.b2
      rw [T1.b] at nz ⊢
      have : 0 < b1 := Nat.pos_of_ne_zero (fun w => nz (by rw [w]; rfl))
      exact (nI_ltI (a := 0) (by decide) (by omega)).mpr this
    refine w2sr (w2sr ?_)
    rw [up_k (show 10 ≠ 8 by decide), up_k (show 10 ≠ 9 by decide), up_k (show 10 ≠ 8 by decide), if_pos hpos]
    refine w2s ⟨oL, ?_, Or.inl ⟨rfl, ?_, ?_⟩⟩
    · show (up (up t1 10 8 (nI 0)) 10 9 (t1 10 10)) 10 8 = nI 0
      rw [up_k (by decide), up_eq]
    · show -10 - (up (up t1 10 8 (nI 0)) 10 9 (t1 10 10)) 10 11 = -10 - s1 27 4
      rw [up_k (by decide), up_k (by decide), e4]
    · intro p k a1 a2
      show (up (up t1 10 8 (nI 0)) 10 9 (t1 10 10)) p k = t p k
      rw [up, if_neg (fun w => a1 ⟨w.1, by omega⟩), up, if_neg (fun w => a1 ⟨w.1, by omega⟩)]
      exact o p k (fun w => a1 ⟨w.1, by omega⟩)
  unfold M_text_81
  rcases X with ⟨h3, p, hp, nb, C, e6, e7, e8⟩ | ⟨h3, h1, h4⟩
  · obtain ⟨R, D0⟩ := D C.1
    have eR : R' = R := by
      have h := D0.1.1
      have h2 := H.2.1
      have h3 := D0.1.2.1
      rw [H.1, nI_eq (by omega) (by omega)] at h
      exact h
    subst eR
    have k0 : tkS b L p = nI 0 := e6.symm.trans (h6 h3)
    have hst : stV b L p = L := by
      have h := stV_le (b := b) hp
      refine Nat.le_antisymm h.2 (Nat.le_of_not_lt (fun c => ?_))
      unfold tkS at k0
      rw [if_pos c] at k0
      unfold srV at k0
      by_cases c1 : ¬ b (stV b L p) < nI 97 ∧ ¬ nI 122 < b (stV b L p)
      · rw [if_pos c1] at k0; exact absurd k0 (by decide)
      · rw [if_neg c1] at k0
        by_cases c2 : ¬ b (stV b L p) < nI 48 ∧ ¬ nI 57 < b (stV b L p)
        · rw [if_pos c2] at k0; exact absurd k0 (by decide)
        · rw [if_neg c2] at k0
          by_cases c3 : b (stV b L p) = nI 59
          · rw [if_pos c3] at k0; exact absurd k0 (by decide)
          · rw [if_neg c3] at k0; exact absurd k0 (by decide)
    rw [C.1, if_pos (show nI 0 = 0 from rfl)]
    by_cases cm : t 10 6 < t 10 3
    · have es : s1 = s := g.2.2.2 (fun w => (D0.miss.mp w) cm)
      subst es
      rw [if_pos cm, if_pos h3]
      unfold M_text_105
      refine w2sr (w2sr ?_)
      rw [up_k (show 10 ≠ 8 by decide), up_k (show 10 ≠ 9 by decide), up_k (show 10 ≠ 8 by decide), C.1, if_neg (by decide)]
      obtain ⟨c, ec, h1, h2, h8⟩ := E_135 (x1 := nI i) (T := t) 52 0 FU (up (up t 10 8 (nI 0)) 10 9 (nI 0)) (fun k hk => absurd hk (by omega)) (fun k => by rw [up_p (by decide), up_p (by decide)]) (fun p k a1 a2 => by rw [up, if_neg (fun w => a2 ⟨w.1, by omega⟩), up, if_neg (fun w => a2 ⟨w.1, by omega⟩)]) (by decide) (by decide)
      refine ⟨_, c, rfl, ec, oL, ?_, Or.inr ⟨rfl, ?_, R', t, D0, offLn.rf, h2⟩⟩
      · rw [h8, up_k (by decide), up_eq]
      · rw [h1]; exact e5.symm
    · rw [if_neg cm, M_fails_0 C.1 C.2.1]
      refine w2sr ?_
      obtain ⟨u1, u2⟩ := g.2.2.1 (D0.miss.mpr cm) h3
      refine bad (up (up t 10 10 (nI 6)) 10 11 (nI (stV b L p))) ((offK.u (by decide)).tr (offK.u (by decide))) ?_ ⟨q, 6, rr, (T.u10 (by decide)).u (by decide)⟩ ?_ u1
      · rw [up_k (by decide), up_eq]; decide
      · rw [up_eq, u2, hst]
  · rw [if_neg h1]
    obtain ⟨f1, f2⟩ := g.2.1 h3
    exact bad t offK.rf h1 ⟨q, bb, rr, T⟩ (f2.trans h4) (by rw [f1]; exact h3)
end TEXTJ
