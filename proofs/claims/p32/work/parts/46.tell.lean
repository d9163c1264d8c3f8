/-! the teller: a text is read to its end -/
def keepC (s s' : sg) : Prop := ∀ p k, ¬ (p = 27 ∧ (k = 3 ∨ k = 4 ∨ k = 6 ∨ k = 7 ∨ k = 8)) → s' p k = s p k
theorem keepC.rf {s : sg} : keepC s s := fun _ _ _ => rfl
theorem keepC.tr {s s' s'' : sg} (h1 : keepC s s') (h2 : keepC s' s'') : keepC s s'' := fun p k hp => (h2 p k hp).trans (h1 p k hp)
theorem keepC.ud {s : sg} {k : Nat} {v : Int32} (h : k = 3 ∨ k = 4 ∨ k = 6 ∨ k = 7 ∨ k = 8) : keepC s (up s 27 k v) := fun p j hp => by
  rw [up, if_neg (fun w => hp ⟨w.1, by rw [w.2]; exact h⟩)]
def digs (s : sg) (a b : Nat) : Prop := ∀ i : Nat, a ≤ i → i < b → ∃ d : Nat, d < 10 ∧ s 28 i = nI (48 + d)
def CU (s : sg) (L : Nat) : Prop := ∃ st bh : Nat, s 27 7 = nI st ∧ s 27 8 = nI bh ∧ st ≤ bh ∧ bh ≤ L ∧ (s 27 6 = nI 2 → bh ≤ st + 2 ∧ digs s st bh)
def keepF (s s' : sg) : Prop := ∀ p k, ¬ (p = 27 ∧ (k = 3 ∨ k = 4)) → s' p k = s p k
theorem keepF.rf {s : sg} : keepF s s := fun _ _ _ => rfl
theorem keepF.c {s s' : sg} (h : keepF s s') : keepC s s' := fun p k hp => h p k (fun w => hp ⟨w.1, by omega⟩)
theorem keepF.cu {s s' : sg} {L : Nat} (h : keepF s s') (C : CU s L) : CU s' L := by
  obtain ⟨st, bh, h1, h2, h3, h4, h5⟩ := C
  refine ⟨st, bh, (h 27 7 (by omega)).trans h1, (h 27 8 (by omega)).trans h2, h3, h4, fun q => ?_⟩
  rw [h 27 6 (by omega)] at q
  refine ⟨(h5 q).1, fun i h1 h2 => ?_⟩
  rw [h 28 i (by omega)]; exact (h5 q).2 i h1 h2
section TELL
variable {s : sg} {L : Nat} {x x1 x2 x3 : Int32}
theorem W_fail {c : Nat} (hc : 0 < c) (hc2 : c < 1000) : wp (T_fail (nI c) x2 s) (fun s' => keepF s s' ∧ ¬ s' 27 3 = 0) := by
  unfold T_fail
  refine wi (fun _ => wsb (wsb (ws ⟨fun p k hp => ?_, ?_⟩))) (fun q => ws ⟨keepF.rf, q⟩)
  · rw [up, if_neg (fun w => hp ⟨w.1, Or.inr w.2⟩), up, if_neg (fun w => hp ⟨w.1, Or.inl w.2⟩)]
  · rw [up_k (by decide), up_eq]; exact nI_ne0 hc (by omega)
theorem W_place5 (hL : L ≤ 160) (eL : s 27 1 = nI L) : ∀ (n b fu : Nat), b + n = L → n < fu → wp (T_placeOfNext_5 s fu (nI b)) (fun v => ∃ st : Nat, b ≤ st ∧ st ≤ L ∧ v = nI st)
  | n, b, 0, hb, hf => absurd hf (by omega)
  | n, b, fu + 1, hb, hf => by
    rw [T_placeOfNext_5, eL]
    refine wi (fun c => ?_) (fun _ => ws ⟨b, by omega, by omega, rfl⟩)
    rw [nI_ltI (by omega) (by omega)] at c
    obtain ⟨n, rfl⟩ : ∃ m, n = m + 1 := ⟨n - 1, by omega⟩
    refine wm rfl (by omega) (by decide) (wi (fun _ => ?_) (fun _ => ws ⟨b, by omega, by omega, rfl⟩))
    rw [nI_add]
    exact wc (W_place5 hL eL n (b + 1) fu (by omega) (by omega)) (fun v hv => by obtain ⟨st, h1, h2, h3⟩ := hv; exact ⟨st, by omega, h2, h3⟩)
theorem W_placeOfNext {b : Nat} (hL : L ≤ 160) (eL : s 27 1 = nI L) (eb : s 27 8 = nI b) (hb : b ≤ L) : wp (T_placeOfNext s) (fun v => ∃ st : Nat, b ≤ st ∧ st ≤ L ∧ v = nI st) := by
  unfold T_placeOfNext
  rw [eb]
  exact W_place5 hL eL (L - b) b FU (by omega) (by show L - b < 100000; omega)
def srt (x v : Int32) : Prop := v = nI 1 ∨ (v = nI 2 ∧ ∃ d : Nat, d < 10 ∧ x = nI (48 + d)) ∨ v = nI 3 ∨ v = nI 4
theorem W_sortOf : wp (T_sortOf x s) (srt x) := by
  have t28 : wp (T_sortOf_28 x s) (srt x) := by
    unfold T_sortOf_28
    exact wi (fun _ => ws (Or.inr (Or.inr (Or.inl rfl)))) (fun _ => ws (Or.inr (Or.inr (Or.inr rfl))))
  have t14 : wp (T_sortOf_14 x s) (srt x) := by
    unfold T_sortOf_14
    refine wi (fun _ => t28) (fun c => wi (fun _ => t28) (fun c2 => ws (Or.inr (Or.inl ⟨rfl, ?_⟩))))
    obtain ⟨j, h1, h2, rfl⟩ := in_nI (by decide) ⟨c, c2⟩ (by decide)
    exact ⟨j - 48, by omega, by rw [show 48 + (j - 48) = j by omega]⟩
  unfold T_sortOf
  exact wi (fun _ => t14) (fun _ => wi (fun _ => t14) (fun _ => ws (Or.inl rfl)))
theorem sub_nI {a b : Nat} (h : b ≤ a) : nI a - nI b = nI (a - b) := pk_sub h
theorem W_nt153 {st bh : Nat} (e7 : s 27 7 = nI st) (e8 : s 27 8 = nI bh) (h1 : st ≤ bh) (h2 : bh ≤ L) : wp (T_nextToken_153 s) (fun s' => keepC s s' ∧ CU s' L) := by
  unfold T_nextToken_153
  refine wsb (wb (W_fail (by decide) (by decide)) (fun s2 g => ws ⟨(keepC.ud (by omega)).tr g.1.c, st, bh, ?_, ?_, h1, h2, fun q => ?_⟩))
  · rw [g.1 27 7 (by omega), up_k (by decide)]; exact e7
  · rw [g.1 27 8 (by omega), up_k (by decide)]; exact e8
  · rw [g.1 27 6 (by omega), up_eq] at q
    exact absurd q (by decide)
theorem W_nt124 {st bh : Nat} (hL : L ≤ 160) (e7 : s 27 7 = nI st) (e8 : s 27 8 = nI bh) (h1 : st ≤ bh) (h2 : bh ≤ L) (hd : s 27 6 = nI 2 → digs s st bh) : wp (T_nextToken_124 s) (fun s' => keepC s s' ∧ CU s' L) := by
  unfold T_nextToken_124
  refine wi (fun _ => W_nt153 e7 e8 h1 h2) (fun _ => wi (fun q => ?_) (fun q => ws ⟨keepC.rf, st, bh, e7, e8, h1, h2, fun w => absurd w q⟩))
  rw [e7, e8, sub_nI h1]
  refine wi (fun _ => W_nt153 e7 e8 h1 h2) (fun c => ws ⟨keepC.rf, st, bh, e7, e8, h1, h2, fun _ => ⟨?_, hd q⟩⟩)
  rw [nI_ltI (by decide) (by omega)] at c
  omega
theorem W_nt81 {st : Nat} (hL : L ≤ 160) : ∀ (n bh fu : Nat) (s : sg), s 27 1 = nI L → s 27 7 = nI st → s 27 8 = nI bh → st ≤ bh → bh + n = L → n < fu → (s 27 6 = nI 2 → digs s st bh) → wp (T_nextToken_81 fu s) (fun s' => keepC s s' ∧ CU s' L)
  | n, bh, 0, s, eL, e7, e8, h1, h2, hf, hd => absurd hf (by omega)
  | n, bh, fu + 1, s, eL, e7, e8, h1, h2, hf, hd => by
    have w := W_nt124 (s := s) hL e7 e8 h1 (by omega) hd
    rw [T_nextToken_81, eL, e8]
    refine wi (fun c => ?_) (fun _ => w)
    rw [nI_ltI (by omega) (by omega)] at c
    obtain ⟨n, rfl⟩ : ∃ m, n = m + 1 := ⟨n - 1, by omega⟩
    refine wm rfl (by omega) (by decide) (wb W_sortOf (fun v hv => wi (fun c2 => wsb ?_) (fun _ => w)))
    rw [nI_add]
    refine wc (W_nt81 (st := st) hL n (bh + 1) fu _ ?_ ?_ up_eq (by omega) (by omega) (by omega) (fun q i hi1 hi2 => ?_)) (fun a ha => ⟨(keepC.ud (by omega)).tr ha.1, ha.2⟩)
    · rw [up_k (by decide)]; exact eL
    · rw [up_k (by decide)]; exact e7
    · rw [up_k (by decide)] at q
      rw [up_p (by decide)]
      by_cases e : i = bh
      · subst e
        rw [q] at c2
        rcases hv with g | ⟨-, g⟩ | g | g
        · rw [c2] at g; exact absurd g (by decide)
        · exact g
        · rw [c2] at g; exact absurd g (by decide)
        · rw [c2] at g; exact absurd g (by decide)
      · exact hd q i hi1 (by omega)
theorem W_nextToken {b : Nat} (hL : L ≤ 160) (eL : s 27 1 = nI L) (eb : s 27 8 = nI b) (hb : b ≤ L) : wp (T_nextToken s) (fun s' => keepC s s' ∧ CU s' L) := by
  unfold T_nextToken
  refine wb (W_placeOfNext hL eL eb hb) (fun v hv => wsb (wsb ?_))
  obtain ⟨st, h1, h2, rfl⟩ := hv
  rw [up_eq]
  have k0 : keepC s (up (up s 27 7 (nI st)) 27 8 (nI st)) := (keepC.ud (by omega)).tr (keepC.ud (by omega))
  have a1 : up (up s 27 7 (nI st)) 27 8 (nI st) 27 1 = nI L := by rw [up_k (by decide), up_k (by decide)]; exact eL
  have a7 : up (up s 27 7 (nI st)) 27 8 (nI st) 27 7 = nI st := by rw [up_k (by decide), up_eq]
  have a8 : up (up s 27 7 (nI st)) 27 8 (nI st) 27 8 = nI st := up_eq
  generalize up (up s 27 7 (nI st)) 27 8 (nI st) = s2 at k0 a1 a7 a8
  have t65 : ∀ (s3 : sg) (bh : Nat), keepC s s3 → s3 27 1 = nI L → s3 27 7 = nI st → s3 27 8 = nI bh → st ≤ bh → bh ≤ L → (s3 27 6 = nI 2 → digs s3 st bh) → wp (T_nextToken_65 s3) (fun s' => keepC s s' ∧ CU s' L) := fun s3 bh k3 c1 c7 c8 g1 g2 gd => by
    have w := wc (W_nt81 hL (L - bh) bh FU s3 c1 c7 c8 g1 (by omega) (by show L - bh < 100000; omega) gd) (fun a ha => (⟨k3.tr ha.1, ha.2⟩ : keepC s a ∧ CU a L))
    unfold T_nextToken_65
    exact wi (fun _ => w) (fun _ => wi (fun _ => w) (fun _ => wc (W_nt124 hL c7 c8 g1 g2 gd) (fun a ha => ⟨k3.tr ha.1, ha.2⟩)))
  have t44 : ∀ y : Int32, (st = L → y = nI 0) → wp (T_nextToken_44 y s2) (fun s' => keepC s s' ∧ CU s' L) := fun y hy => by
    unfold T_nextToken_44
    refine wsb ?_
    rw [up_eq, up_k (by decide), a8]
    have nil : ∀ s', digs s' st st := fun s' i q1 q2 => absurd q1 (by omega)
    refine wi (fun c => wsb ?_) (fun _ => ?_)
    · have hlt : st < L := by
        rcases Nat.lt_or_ge st L with q | q
        · exact q
        · rw [hy (by omega)] at c; exact absurd c (by decide)
      rw [nI_add]
      refine t65 _ (st + 1) ((k0.tr (keepC.ud (by omega))).tr (keepC.ud (by omega))) ?_ ?_ up_eq (by omega) (by omega) (fun q => ?_)
      · rw [up_k (by decide), up_k (by decide)]; exact a1
      · rw [up_k (by decide), up_k (by decide)]; exact a7
      · rw [up_k (by decide), up_eq, c] at q
        exact absurd q (by decide)
    · refine t65 _ st (k0.tr (keepC.ud (by omega))) ?_ ?_ ?_ (by omega) (by omega) (fun _ => nil _)
      · rw [up_k (by decide)]; exact a1
      · rw [up_k (by decide)]; exact a7
      · rw [up_k (by decide)]; exact a8
  rw [a7, a1]
  refine wi (fun c => ?_) (fun _ => t44 _ (fun _ => rfl))
  rw [nI_ltI (by omega) (by omega)] at c
  exact wm rfl (by omega) (by decide) (wb W_sortOf (fun v _ => t44 v (fun q => absurd q (by omega))))
theorem W_tv7 {st bh : Nat} (hL : L ≤ 160) (e8 : s 27 8 = nI bh) (h2 : bh ≤ L) (hd : s 27 6 = nI 2 → bh ≤ st + 2 ∧ digs s st bh) : ∀ (n i fu a : Nat), st ≤ i → i + n = bh → n < fu → (s 27 6 = nI 2 → a < 10 ^ (i - st)) → a ≤ 99 → wp (T_tokenValue_7 s fu (nI a) (nI i)) (fun v => ∃ k : Nat, k ≤ 99 ∧ v = nI k)
  | n, i, 0, a, h1, hi, hf, ha, ha2 => absurd hf (by omega)
  | n, i, fu + 1, a, h1, hi, hf, ha, ha2 => by
    rw [T_tokenValue_7, e8]
    refine wi (fun c => wi (fun q => ?_) (fun _ => ws ⟨a, ha2, rfl⟩)) (fun _ => ws ⟨a, ha2, rfl⟩)
    rw [nI_ltI (by omega) (by omega)] at c
    obtain ⟨n, rfl⟩ : ∃ m, n = m + 1 := ⟨n - 1, by omega⟩
    obtain ⟨h3, hd⟩ := hd q
    obtain ⟨d, hd1, hd2⟩ := hd i h1 c
    refine wm rfl (by omega) (by decide) ?_
    rw [hd2, pk_mul, nI_add, sub_nI (by omega), nI_add, show 10 * a + (48 + d) - 48 = 10 * a + d by omega]
    have ha := ha q
    have hb : 10 * a + d < 10 ^ (i + 1 - st) := by
      rw [show i + 1 - st = (i - st) + 1 by omega, Nat.pow_succ]; omega
    have hb2 : 10 ^ (i + 1 - st) ≤ 10 ^ 2 := Nat.pow_le_pow_right (by decide) (by omega)
    exact W_tv7 hL e8 h2 (fun q => ⟨h3, (by assumption)⟩) n (i + 1) fu (10 * a + d) (by omega) (by omega) (by omega) (fun _ => hb) (by omega)
theorem W_tokenValue (hL : L ≤ 160) (C : CU s L) : wp (T_tokenValue s) (fun v => ∃ k : Nat, k ≤ 99 ∧ v = nI k) := by
  obtain ⟨st, bh, e7, e8, h1, h2, h5⟩ := C
  unfold T_tokenValue
  rw [e7]
  exact W_tv7 hL e8 h2 h5 (bh - st) st FU 0 (by omega) (by omega) (by show bh - st < 100000; omega) (fun _ => by rw [Nat.sub_self]; decide) (by decide)
theorem CU.bh (C : CU s L) : ∃ b : Nat, s 27 8 = nI b ∧ b ≤ L := by
  obtain ⟨st, bh, e7, e8, h1, h2, h5⟩ := C
  exact ⟨bh, e8, h2⟩
theorem W_nextNumber {M b : Nat} (hM : M < 1000) (hL : L ≤ 160) (eL : s 27 1 = nI L) (eb : s 27 8 = nI b) (hb : b ≤ L) : wp (T_nextNumber (nI M) s) (fun v => keepC s v.2 ∧ CU v.2 L ∧ ∃ k : Nat, k ≤ M ∧ v.1 = nI k) := by
  unfold T_nextNumber
  refine wb (W_nextToken hL eL eb hb) (fun s1 h1 => wb (W_tokenValue hL h1.2) (fun v2 h2 => ?_))
  obtain ⟨k, hk, rfl⟩ := h2
  have bad : ∀ s2, keepF s1 s2 ∧ ¬ s2 27 3 = 0 → wp (T_nextNumber_43 (nI k) s2) (fun v => keepC s v.2 ∧ CU v.2 L ∧ ∃ k : Nat, k ≤ M ∧ v.1 = nI k) := fun s2 g => by
    unfold T_nextNumber_43
    exact wi (fun q => absurd q g.2) (fun _ => ws ⟨h1.1.tr g.1.c, g.1.cu h1.2, 0, by omega, rfl⟩)
  refine wi (fun _ => wi (fun _ => wb (W_fail (by decide) (by decide)) bad) (fun c => ?_)) (fun _ => wb (W_fail (by decide) (by decide)) bad)
  rw [nI_ltI (by omega) (by omega)] at c
  unfold T_nextNumber_43
  exact wi (fun _ => ws ⟨h1.1, h1.2, k, by omega, rfl⟩) (fun _ => ws ⟨h1.1, h1.2, 0, by omega, rfl⟩)
theorem W_endLine {b : Nat} (hL : L ≤ 160) (eL : s 27 1 = nI L) (eb : s 27 8 = nI b) (hb : b ≤ L) : wp (T_endLine s) (fun s' => keepC s s' ∧ CU s' L) := by
  unfold T_endLine
  refine wb (W_nextToken hL eL eb hb) (fun s1 h1 => wi (fun _ => ws h1) (fun _ => wb (W_fail (by decide) (by decide)) (fun s2 g => ws ⟨h1.1.tr g.1.c, g.1.cu h1.2⟩)))
end TELL
