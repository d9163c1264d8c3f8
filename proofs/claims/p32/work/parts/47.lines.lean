/-! the teller's lines, the text -/
def offL (s s' : sg) : Prop := ∀ p, ¬ (p = 27 ∨ (29 ≤ p ∧ p ≤ 36)) → s' p = s p
theorem keepC.l {s s' : sg} (h : keepC s s') : offL s s' := fun p hp => by funext k; exact h p k (by omega)
def TQ (s0 : sg) (L : Nat) (s : sg) : Prop := (s 27 1 = nI L ∧ L ≤ 160 ∧ (∃ R : Nat, HS s 29 R 0) ∧ CU s L) ∧ offL s0 s
theorem CU.out {s : sg} {L p k : Nat} {v : Int32} (C : CU s L) (h : p ≠ 27 ∧ p ≠ 28) : CU (up s p k v) L := by
  obtain ⟨st, bh, e7, e8, h1, h2, h5⟩ := C
  refine ⟨st, bh, (up_p (by omega)).trans e7, (up_p (by omega)).trans e8, h1, h2, fun q => ?_⟩
  rw [up_p (by omega)] at q
  refine ⟨(h5 q).1, fun i a b => ?_⟩
  rw [up_p (by omega)]; exact (h5 q).2 i a b
theorem CU.in27 {s : sg} {L k : Nat} {v : Int32} (C : CU s L) (h : k ≠ 6 ∧ k ≠ 7 ∧ k ≠ 8) : CU (up s 27 k v) L := by
  obtain ⟨st, bh, e7, e8, h1, h2, h5⟩ := C
  refine ⟨st, bh, (up_k (by omega)).trans e7, (up_k (by omega)).trans e8, h1, h2, fun q => ?_⟩
  rw [up_k (by omega)] at q
  refine ⟨(h5 q).1, fun i a b => ?_⟩
  rw [up_p (by decide)]; exact (h5 q).2 i a b
section LINES
variable {s s0 : sg} {L : Nat} {x x1 x2 x3 : Int32}
theorem TQ.c {s' : sg} (q : TQ s0 L s) (k : keepC s s') (C : CU s' L) : TQ s0 L s' := by
  obtain ⟨⟨h1, h2, ⟨R, h3⟩, h4⟩, o⟩ := q
  refine ⟨⟨(k 27 1 (by omega)).trans h1, h2, ⟨R, h3.keep (k 29 0 (by omega)) (k 29 2 (by omega)) (by funext r; exact k 33 r (by omega))⟩, C⟩, fun p hp => (k.l p hp).trans (o p hp)⟩
theorem TQ.f {s' : sg} (q : TQ s0 L s) (k : keepF s s') : TQ s0 L s' := q.c k.c (k.cu q.1.2.2.2)
theorem TQ.fail {c : Nat} (hc : 0 < c) (hc2 : c < 1000) (q : TQ s0 L s) : wp (T_fail (nI c) x2 s) (TQ s0 L) := wc (W_fail hc hc2) (fun s' g => q.f g.1)
theorem TQ.num {M : Nat} (hM : M < 1000) (q : TQ s0 L s) : wp (T_nextNumber (nI M) s) (fun v => TQ s0 L v.2 ∧ ∃ k : Nat, k ≤ M ∧ v.1 = nI k) := by
  obtain ⟨b, e8, hb⟩ := q.1.2.2.2.bh
  exact wc (W_nextNumber hM q.1.2.1 q.1.1 e8 hb) (fun v g => ⟨q.c g.1 g.2.1, g.2.2⟩)
theorem TQ.fin (q : TQ s0 L s) : wp (T_endLine s) (TQ s0 L) := by
  obtain ⟨b, e8, hb⟩ := q.1.2.2.2.bh
  exact wc (W_endLine q.1.2.1 q.1.1 e8 hb) (fun v g => q.c g.1 g.2)
theorem TQ.tok (q : TQ s0 L s) : wp (T_nextToken s) (TQ s0 L) := by
  obtain ⟨b, e8, hb⟩ := q.1.2.2.2.bh
  exact wc (W_nextToken q.1.2.1 q.1.1 e8 hb) (fun v g => q.c g.1 g.2)
theorem TQ.u30 {p k : Nat} {v : Int32} (q : TQ s0 L s) (hp : 30 ≤ p ∧ p ≤ 36 ∧ p ≠ 33) : TQ s0 L (up s p k v) := by
  obtain ⟨⟨h1, h2, ⟨R, h3⟩, h4⟩, o⟩ := q
  exact ⟨⟨(up_p (by omega)).trans h1, h2, ⟨R, h3.keep (up_p (by omega)) (up_p (by omega)) (up_off (by omega))⟩, h4.out (by omega)⟩, fun p hp => (up_off (by omega)).trans (o p hp)⟩
theorem TQ.u33 {k : Nat} {v : Int32} (q : TQ s0 L s) (hv : tg v) : TQ s0 L (up s 33 k v) := by
  obtain ⟨⟨h1, h2, ⟨R, h3⟩, h4⟩, o⟩ := q
  exact ⟨⟨(up_p (by omega)).trans h1, h2, ⟨R, h3.up4 (b := 29) hv⟩, h4.out (by omega)⟩, fun p hp => (up_off (by omega)).trans (o p hp)⟩
theorem TQ.u27 {k : Nat} {v : Int32} (q : TQ s0 L s) (hk : k ≠ 1 ∧ k ≠ 6 ∧ k ≠ 7 ∧ k ≠ 8) : TQ s0 L (up s 27 k v) := by
  obtain ⟨⟨h1, h2, ⟨R, h3⟩, h4⟩, o⟩ := q
  exact ⟨⟨(up_k (by omega)).trans h1, h2, ⟨R, h3.keep (up_p (by omega)) (up_p (by omega)) (up_off (by omega))⟩, h4.in27 (by omega)⟩, fun p hp => (up_off (by omega)).trans (o p hp)⟩
theorem W_tellRoom (q : TQ s0 L s) : wp (T_tellRoom s) (TQ s0 L) := by
  unfold T_tellRoom
  obtain ⟨R, h3⟩ := q.1.2.2.1
  refine wi (fun c => wsb ?_) (fun _ => wb (q.fail (by decide) (by decide)) (fun s1 h1 => ws h1))
  have hR := h3.2.1
  rw [h3.1, nI_ltI (by omega) (by decide)] at c
  rw [h3.1, nI_add]
  have q1 : TQ s0 L (up s 29 0 (nI (R + 1))) := by
    obtain ⟨⟨h1, h2, -, h4⟩, o⟩ := q
    exact ⟨⟨(up_p (by omega)).trans h1, h2, ⟨R + 1, up_eq, by omega, (up_k (by decide)).trans h3.2.2.1, fun r hr => by rw [up_p (by omega)]; exact h3.2.2.2 r hr⟩, h4.out (by omega)⟩, fun p hp => (up_off (by omega)).trans (o p hp)⟩
  refine wb (q1.num (by decide)) (fun v1 g1 => wm rfl c (by decide) (wsb ?_))
  refine wb ((g1.1.u30 (by omega)).num (by decide)) (fun v2 g2 => wm rfl c (by decide) (wsb ?_))
  refine wb ((g2.1.u30 (by omega)).num (by decide)) (fun v3 g3 => wm rfl c (by decide) (wsb ?_))
  exact wb ((g3.1.u30 (by omega)).fin) (fun s5 g5 => ws g5)
theorem W_tellTongue (hx : tg x1) (q : TQ s0 L s) : wp (T_tellTongue x1 s) (TQ s0 L) := by
  unfold T_tellTongue
  refine wb (q.num (by decide)) (fun v g => ?_)
  obtain ⟨g1, k, hk, e⟩ := g
  rw [e]
  have t : ∀ s', TQ s0 L s' → wp (T_tellTongue_26 x1 (nI k) s') (TQ s0 L) := fun s' q' => by
    unfold T_tellTongue_26
    refine wm rfl (by omega) (by decide) (wsb (wb ((q'.u33 hx).num (by decide)) (fun v1 g1 => wm rfl (by omega) (by decide) (wsb ?_))))
    exact wb ((g1.1.u30 (by omega)).fin) (fun s5 g5 => ws g5)
  exact wbB (W_hasTongue (by omega)) (t _ g1) (fun _ => wb (g1.fail (by decide) (by decide)) (fun s1 h1 => t _ h1))
theorem W_tellWall (q : TQ s0 L s) : wp (T_tellWall s) (TQ s0 L) := by
  unfold T_tellWall
  refine wb (q.num (by decide)) (fun v g => ?_)
  obtain ⟨g1, k, hk, e⟩ := g
  rw [e]
  have t : ∀ s', TQ s0 L s' → wp (T_tellWall_27 (nI k) s') (TQ s0 L) := fun s' q' => by
    unfold T_tellWall_27
    refine wsb (wb ((q'.u27 (by decide)).num (by decide)) (fun v1 g1 => wm rfl (by omega) (by decide) (wsb ?_)))
    exact wb ((g1.1.u30 (by omega)).fin) (fun s5 g5 => ws g5)
  exact wi (fun _ => wb (g1.fail (by decide) (by decide)) (fun s1 h1 => t _ h1)) (fun _ => t _ g1)
theorem W_refuse (q : TQ s0 L s) : wp (T_refuseNinth s) (TQ s0 L) := by
  unfold T_refuseNinth
  have t37 : ∀ y : Int32, wp (T_refuseNinth_37 y s) (TQ s0 L) := fun y => by
    unfold T_refuseNinth_37
    exact wb (q.fail (by decide) (by decide)) (fun s1 h1 => ws h1)
  have t : ∀ y z : Int32, wp (T_refuseNinth_26 y z s) (TQ s0 L) := fun y z => by
    unfold T_refuseNinth_26
    exact wi (fun _ => t37 _) (fun _ => wi (fun _ => t37 _) (fun _ => ws q))
  obtain ⟨b, e8, hb⟩ := q.1.2.2.2.bh
  have hL := q.1.2.1
  refine wb (W_placeOfNext hL q.1.1 e8 hb) (fun v g => ?_)
  obtain ⟨st, h1, h2, rfl⟩ := g
  rw [q.1.1]
  refine wi (fun c => ?_) (fun _ => t _ _)
  rw [nI_ltI (by omega) (by omega)] at c
  exact wm rfl (by omega) (by decide) (wb W_sortOf (fun v _ => t _ _))
theorem W_out27 : ∀ (n r fu : Nat) (s : sg), TQ s0 L s → r + n = 8 → n < fu → wp (T_tellOut_27 fu (nI r) s) (TQ s0 L)
  | n, r, 0, s, q, hr, hf => absurd hf (by omega)
  | n, r, fu + 1, s, q, hr, hf => by
    have t74 : wp (T_tellOut_74 s) (TQ s0 L) := by
      unfold T_tellOut_74
      exact wi (fun _ => ws q) (fun _ => wb (q.fail (by decide) (by decide)) (fun s1 h1 => ws h1))
    rw [T_tellOut_27]
    refine wi (fun c => wi (fun _ => ?_) (fun _ => t74)) (fun _ => t74)
    rw [nI_ltI (by omega) (by decide)] at c
    obtain ⟨n, rfl⟩ : ∃ m, n = m + 1 := ⟨n - 1, by omega⟩
    have t67 : ∀ s', TQ s0 L s' → wp (T_tellOut_67 (T_tellOut_27 fu) (nI r + nI 1) s') (TQ s0 L) := fun s' q' => by
      unfold T_tellOut_67
      rw [nI_add]
      exact wb q'.tok (fun s1 h1 => W_out27 n (r + 1) fu s1 h1 (by omega) (by omega))
    refine wb (W_tokenValue q.1.2.1 q.1.2.2.2) (fun v _ => wm rfl (by omega) (by decide) (wsb ?_))
    exact wi (fun _ => wb (W_refuse (q.u30 (by omega))) (fun s2 h2 => t67 _ h2)) (fun _ => t67 _ (q.u30 (by omega)))
theorem W_tellOut (q : TQ s0 L s) : wp (T_tellOut s) (TQ s0 L) := by
  unfold T_tellOut
  have t : ∀ s', TQ s0 L s' → wp (T_tellOut_16 s') (TQ s0 L) := fun s' q' => by
    unfold T_tellOut_16
    exact wsb (wb ((q'.u27 (by decide)).tok) (fun s2 h2 => W_out27 8 0 FU s2 h2 (by omega) (by decide)))
  exact wi (fun _ => t _ q) (fun _ => wb (q.fail (by decide) (by decide)) (fun s1 h1 => t _ h1))
theorem ro_le : (List.range 10).all (fun w => Nat.ble (roS w).length 5) = true := by decide +kernel
theorem W_named20 {w st bh : Nat} (hw : w < 10) (hL : L ≤ 160) (e7 : s 27 7 = nI st) (h2 : bh ≤ L) (hlen : st + (roS w).length = bh) : ∀ (n r fu : Nat), r + n = (roS w).length → n < fu → wp (T_isNamed_20 w s fu (nI r)) (yn True)
  | n, r, 0, hr, hf => absurd hf (by omega)
  | n, r, fu + 1, hr, hf => by
    have h5 : (roS w).length ≤ 5 := Nat.le_of_ble_eq_true (List.all_eq_true.mp ro_le w (List.mem_range.mpr hw))
    rw [T_isNamed_20, e7]
    refine wi (fun c => ?_) (fun _ => ws (Or.inr ⟨rfl, trivial⟩))
    rw [nI_ltI (by omega) (by omega)] at c
    obtain ⟨n, rfl⟩ : ∃ m, n = m + 1 := ⟨n - 1, by omega⟩
    refine wm (nI_add st r) (by omega) (by decide) (wm rfl c (by omega) (wi (fun _ => ?_) (fun _ => ws (Or.inl rfl))))
    rw [nI_add]
    exact W_named20 hw hL e7 h2 hlen n (r + 1) fu (by omega) (by omega)
theorem W_isNamed {w : Nat} (hw : w < 10) (q : TQ s0 L s) : wp (T_isNamed w s) (yn True) := by
  obtain ⟨st, bh, e7, e8, h1, h2, -⟩ := q.1.2.2.2
  have hL := q.1.2.1
  have h5 : (roS w).length ≤ 5 := Nat.le_of_ble_eq_true (List.all_eq_true.mp ro_le w (List.mem_range.mpr hw))
  unfold T_isNamed
  rw [e8, e7, sub_nI h1]
  refine wi (fun c => ?_) (fun _ => ws (Or.inl rfl))
  rw [nI_eq (by omega) (by omega)] at c
  exact W_named20 hw hL e7 h2 (by omega) (roS w).length 0 FU (by omega) (by show (roS w).length < 100000; omega)
theorem W_lineByName (q : TQ s0 L s) : wp (T_lineByName s) (fun v => v = nI 0 ∨ v = nI 1 ∨ v = nI 2 ∨ v = nI 3 ∨ v = nI 10 ∨ v = nI 11 ∨ v = nI 12 ∨ v = nI 13) := by
  unfold T_lineByName
  refine wbB (W_isNamed (by decide) q) ?_ (fun _ => ws (by simp))
  refine wbB (W_isNamed (by decide) q) ?_ (fun _ => ws (by simp))
  refine wbB (W_isNamed (by decide) q) ?_ (fun _ => ws (by simp))
  refine wbB (W_isNamed (by decide) q) ?_ (fun _ => ws (by simp))
  refine wbB (W_isNamed (by decide) q) ?_ (fun _ => ws (by simp))
  refine wbB (W_isNamed (by decide) q) ?_ (fun _ => ws (by simp))
  exact wbB (W_isNamed (by decide) q) (ws (by simp)) (fun _ => ws (by simp))
theorem W_tellLine (q : TQ s0 L s) : wp (T_tellLine s) (TQ s0 L) := by
  have t : ∀ y : Int32, (y = nI 0 ∨ y = nI 1 ∨ y = nI 2 ∨ y = nI 3 ∨ y = nI 10 ∨ y = nI 11 ∨ y = nI 12 ∨ y = nI 13) → wp (T_tellLine_17 y s) (TQ s0 L) := fun y hy => by
    unfold T_tellLine_17
    refine wi (fun _ => wb (W_tellRoom q) (fun s1 h1 => ws h1)) (fun a1 => wi (fun _ => wb (W_tellWall q) (fun s1 h1 => ws h1)) (fun a2 => wi (fun _ => wb (W_tellOut q) (fun s1 h1 => ws h1)) (fun a3 => wi (fun _ => wb (q.fail (by decide) (by decide)) (fun s1 h1 => ws h1)) (fun a4 => ?_))))
    refine wb (W_tellTongue ?_ q) (fun s1 h1 => ws h1)
    rcases hy with e | e | e | e | e | e | e | e
    · exact Or.inr ⟨0, by decide, e⟩
    · exact Or.inr ⟨1, by decide, e⟩
    · exact Or.inr ⟨2, by decide, e⟩
    · exact Or.inr ⟨3, by decide, e⟩
    · exact absurd e a1
    · exact absurd e a2
    · exact absurd e a3
    · exact absurd e a4
  unfold T_tellLine
  exact wi (fun _ => wb (W_lineByName q) (fun v hv => t v hv)) (fun _ => t _ (by simp))
theorem W_miss43 : ∀ (n r fu : Nat) (s : sg), TQ s0 L s → r + n = 5 → n < fu → wp (T_findMissing_43 fu (nI r) s) (TQ s0 L)
  | n, r, 0, s, q, hr, hf => absurd hf (by omega)
  | n, r, fu + 1, s, q, hr, hf => by
    rw [T_findMissing_43]
    refine wi (fun c => ?_) (fun _ => ws q)
    rw [nI_ltI (by omega) (by decide)] at c
    obtain ⟨n, rfl⟩ : ∃ m, n = m + 1 := ⟨n - 1, by omega⟩
    have k : ∀ s', TQ s0 L s' → wp (T_findMissing_43 fu (nI r + nI 1) s') (TQ s0 L) := fun s' q' => by
      rw [nI_add]; exact W_miss43 n (r + 1) fu s' q' (by omega) (by omega)
    obtain ⟨R, h3⟩ := q.1.2.2.1
    exact wi (fun _ => wbB (W_hasWall h3) (wb (q.fail (by decide) (by decide)) (fun s1 h1 => k _ h1)) (fun _ => k _ q)) (fun _ => k _ q)
theorem W_miss8 : ∀ (n r fu : Nat) (s : sg), TQ s0 L s → r + n = 6 → n < fu → wp (T_findMissing_8 fu (nI r) s) (TQ s0 L)
  | n, r, 0, s, q, hr, hf => absurd hf (by omega)
  | n, r, fu + 1, s, q, hr, hf => by
    rw [T_findMissing_8]
    refine wi (fun c => ?_) (fun _ => W_miss43 5 0 FU s q (by omega) (by decide))
    rw [nI_ltI (by omega) (by decide)] at c
    obtain ⟨n, rfl⟩ : ∃ m, n = m + 1 := ⟨n - 1, by omega⟩
    have k : ∀ s', TQ s0 L s' → wp (T_findMissing_8 fu (nI r + nI 1) s') (TQ s0 L) := fun s' q' => by
      rw [nI_add]; exact W_miss8 n (r + 1) fu s' q' (by omega) (by omega)
    exact wbB (W_hasTongue (by omega)) (k _ q) (fun _ => wb (q.fail (by decide) (by decide)) (fun s1 h1 => k _ h1))
theorem W_tell88 (q : TQ s0 L s) : wp (T_tell_88 s) (fun v => TQ s0 L v.2) := by
  unfold T_tell_88
  refine wb (P := TQ s0 L) ?_ (fun s1 h1 => wi (fun _ => ws h1) (fun _ => ws h1))
  unfold T_findMissing
  obtain ⟨R, h3⟩ := q.1.2.2.1
  have hR := h3.2.1
  rw [h3.1]
  exact W_miss8 (6 - R) R FU s q (by omega) (by show 6 - R < 100000; omega)
theorem W_tell43 : ∀ (n r fu : Nat) (s : sg), TQ s0 L s → r + n = 160 → n < fu → wp (T_tell_43 fu (nI r) s) (fun v => TQ s0 L v.2)
  | n, r, 0, s, q, hr, hf => absurd hf (by omega)
  | n, r, fu + 1, s, q, hr, hf => by
    rw [T_tell_43]
    refine wi (fun c => wi (fun _ => wi (fun _ => W_tell88 q) (fun _ => ?_)) (fun _ => W_tell88 q)) (fun _ => W_tell88 q)
    rw [nI_ltI (by omega) (by decide)] at c
    obtain ⟨n, rfl⟩ : ∃ m, n = m + 1 := ⟨n - 1, by omega⟩
    refine wb (W_tellLine q) (fun s1 h1 => wsb (wb ((h1.u27 (by decide)).tok) (fun s3 h3 => ?_)))
    rw [nI_add]
    exact W_tell43 n (r + 1) fu s3 h3 (by omega) (by omega)
theorem W_emp68 {b : Nat} : ∀ (n r fu : Nat) (s : sg), r + n = 8 → n < fu → wp (H_empty_68 b fu (nI r) s) (fun s' => ∀ p, p ≠ b + 7 → s' p = s p)
  | n, r, 0, s, hr, hf => absurd hf (by omega)
  | n, r, fu + 1, s, hr, hf => by
    rw [H_empty_68]
    refine wi (fun c => ?_) (fun _ => ws (fun _ _ => rfl))
    rw [nI_ltI (by omega) (by decide)] at c
    obtain ⟨n, rfl⟩ : ∃ m, n = m + 1 := ⟨n - 1, by omega⟩
    refine wm rfl (by omega) (by decide) (wsb ?_)
    rw [nI_add]
    exact wc (W_emp68 n (r + 1) fu _ (by omega) (by omega)) (fun a ha p hp => (ha p hp).trans (up_off hp))
theorem W_emp48 {b : Nat} : ∀ (n r fu : Nat) (s : sg), r + n = 5 → n < fu → wp (H_empty_48 b fu (nI r) s) (fun s' => ∀ p, p ≠ b + 7 → p ≠ b + 6 → s' p = s p)
  | n, r, 0, s, hr, hf => absurd hf (by omega)
  | n, r, fu + 1, s, hr, hf => by
    rw [H_empty_48]
    refine wi (fun c => ?_) (fun _ => wc (W_emp68 8 0 FU s (by omega) (by decide)) (fun a ha p hp _ => ha p hp))
    rw [nI_ltI (by omega) (by decide)] at c
    obtain ⟨n, rfl⟩ : ∃ m, n = m + 1 := ⟨n - 1, by omega⟩
    refine wm rfl (by omega) (by decide) (wsb ?_)
    rw [nI_add]
    exact wc (W_emp48 n (r + 1) fu _ (by omega) (by omega)) (fun a ha p hp hp2 => (ha p hp hp2).trans (up_off hp2))
theorem W_emp27 {b : Nat} : ∀ (n r fu : Nat) (s : sg), r + n = 6 → n < fu → (∀ i, i < r → s (b + 4) i = -1) → wp (H_empty_27 b fu (nI r) s) (fun s' => (∀ p, p ≠ b + 7 → p ≠ b + 6 → p ≠ b + 4 → s' p = s p) ∧ ∀ i, i < 6 → s' (b + 4) i = -1)
  | n, r, 0, s, hr, hf, ht => absurd hf (by omega)
  | n, r, fu + 1, s, hr, hf, ht => by
    rw [H_empty_27]
    refine wi (fun c => ?_) (fun c => wc (W_emp48 5 0 FU s (by omega) (by decide)) (fun a ha => ⟨fun p hp hp2 _ => ha p hp hp2, fun i hi => by rw [ha _ (by omega) (by omega)]; rw [nI_ltI (by omega) (by decide)] at c; exact ht i (by omega)⟩))
    rw [nI_ltI (by omega) (by decide)] at c
    obtain ⟨n, rfl⟩ : ∃ m, n = m + 1 := ⟨n - 1, by omega⟩
    refine wm rfl (by omega) (by decide) (wsb ?_)
    rw [nI_add]
    refine wc (W_emp27 n (r + 1) fu _ (by omega) (by omega) (fun i hi => ?_)) (fun a ha => ⟨fun p h1 h2 h3 => (ha.1 p h1 h2 h3).trans (up_off h3), ha.2⟩)
    by_cases e : i = r
    · subst e; exact up_eq
    · rw [up_k e]; exact ht i (by omega)
theorem W_empty {b : Nat} : wp (H_empty b s) (fun s' => HS s' b 0 0 ∧ offH b s s') := by
  unfold H_empty
  refine wsb (wsb (wsb (wsb (wsb (wc (W_emp27 6 0 FU _ (by omega) (by decide) (fun i hi => absurd hi (by omega))) (fun a ha => ⟨⟨?_, by omega, ?_, fun r hr => Or.inl (ha.2 r hr)⟩, fun p hp => ?_⟩))))))
  · rw [ha.1 _ (by omega) (by omega) (by omega), up_k (by decide), up_k (by decide), up_k (by decide), up_k (by decide), up_eq]
  · rw [ha.1 _ (by omega) (by omega) (by omega), up_k (by decide), up_k (by decide), up_eq]
  · rw [ha.1 _ (by omega) (by omega) (by omega), up_off (by omega), up_off (by omega), up_off (by omega), up_off (by omega), up_off (by omega)]
theorem W_T_tell (eL : s 27 1 = nI L) (hL : L ≤ 160) : wp (T_tell s) (fun v => TQ s L v.2) := by
  unfold T_tell
  refine wb W_empty (fun s1 h1 => wsb (wsb (wsb (wsb (wsb (wsb ?_))))))
  have e1 : s1 27 = s 27 := h1.2 27 (by decide)
  have key : ∀ s7, (∀ p, p ≠ 27 → s7 p = s1 p) → s7 27 1 = nI L → s7 27 8 = nI 0 → wp (T_nextToken s7) (TQ s L) := fun s7 k7 a1 a8 => by
    refine wc (W_nextToken hL a1 a8 (by omega)) (fun s8 g => ⟨⟨(g.1 27 1 (by omega)).trans a1, hL, ⟨0, h1.1.keep ?_ ?_ ?_⟩, g.2⟩, fun p hp => ?_⟩)
    · rw [g.1 29 0 (by omega), k7 29 (by decide)]
    · rw [g.1 29 2 (by omega), k7 29 (by decide)]
    · funext r; rw [g.1 33 r (by omega), k7 33 (by decide)]
    · rw [g.1.l p hp, k7 p (by omega), h1.2 p (by omega)]
  refine wb (key _ (fun p hp => ?_) ?_ ?_) (fun s8 h8 => W_tell43 160 0 FU s8 h8 (by omega) (by decide))
  · rw [up_off hp, up_off hp, up_off hp, up_off hp, up_off hp, up_off hp]
  · rw [up_k (by decide), up_k (by decide), up_k (by decide), up_k (by decide), up_k (by decide), up_k (by decide), e1]; exact eL
  · rw [up_k (by decide), up_k (by decide), up_eq]
end LINES
