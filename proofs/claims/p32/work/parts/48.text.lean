/-! feed, end, text of the class -/
section TEXT
variable {s : sg} {L : Nat} {x x1 : Int32}
theorem IC.f {s' : sg} (I : IC s) (h27 : ∃ L : Nat, L ≤ 160 ∧ s' 27 1 = nI L) (o : ∀ p, ¬ (p = 27 ∨ p = 28 ∨ (29 ≤ p ∧ p ≤ 36)) → s' p = s p) : IC s' ∧ ∀ k : Nat, k < 4 → s' (133 + 2 * k) = s (133 + 2 * k) := by
  obtain ⟨⟨R, h, hh, H⟩, i2, i3, -, i5⟩ := I
  refine ⟨⟨⟨R, h, hh, H.keep (by rw [o _ (by omega)]) (by rw [o _ (by omega)]) (o _ (by omega))⟩, fun k hk => ?_, ?_, h27, fun k hk => by rw [o _ (by omega)]; exact i5 k hk⟩, fun k hk => o _ (by omega)⟩
  · obtain ⟨R, h, hh, H⟩ := i2 k hk
    exact ⟨R, h, hh, H.keep (by rw [o _ (by omega)]) (by rw [o _ (by omega)]) (o _ (by omega))⟩
  · unfold FI
    rw [o 23 (by omega), o 24 (by omega), o 25 (by omega)]; exact i3
/-- what feed answers, and the length behind it -/
theorem W_C_feed (I : IC s) (hL : L ≤ 160) (eL : s 27 1 = nI L) : wp (C_feed x1 s) (fun v => IC v.2 ∧ (∀ k : Nat, k < 4 → v.2 (133 + 2 * k) = s (133 + 2 * k)) ∧
    ((¬ (¬ x1 < nI 0 ∧ ¬ nI 127 < x1) ∧ v.1 = -1 ∧ v.2 27 1 = nI L) ∨ ((¬ x1 < nI 0 ∧ ¬ nI 127 < x1) ∧ L = 160 ∧ v.1 = -3 ∧ v.2 27 1 = nI L) ∨ ((¬ x1 < nI 0 ∧ ¬ nI 127 < x1) ∧ L < 160 ∧ v.1 = nI (L + 1) ∧ v.2 27 1 = nI (L + 1)))) := by
  unfold C_feed C_within
  have bad : ¬ (¬ x1 < nI 0 ∧ ¬ nI 127 < x1) → wp (some ((-1 : Int32), s)) (fun v => IC v.2 ∧ (∀ k : Nat, k < 4 → v.2 (133 + 2 * k) = s (133 + 2 * k)) ∧
    ((¬ (¬ x1 < nI 0 ∧ ¬ nI 127 < x1) ∧ v.1 = -1 ∧ v.2 27 1 = nI L) ∨ ((¬ x1 < nI 0 ∧ ¬ nI 127 < x1) ∧ L = 160 ∧ v.1 = -3 ∧ v.2 27 1 = nI L) ∨ ((¬ x1 < nI 0 ∧ ¬ nI 127 < x1) ∧ L < 160 ∧ v.1 = nI (L + 1) ∧ v.2 27 1 = nI (L + 1)))) := fun q => ws ⟨I, fun _ _ => rfl, Or.inl ⟨q, rfl, eL⟩⟩
  by_cases c1 : x1 < nI 0
  · rw [if_pos c1]; exact bad (fun q => q.1 c1)
  · rw [if_neg c1]
    by_cases c2 : nI 127 < x1
    · rw [if_pos c2]; exact bad (fun q => q.2 c2)
    · rw [if_neg c2]
      refine wsb ?_
      rw [if_neg (show ¬ nI 1 = 0 by decide)]
      unfold T_put
      rw [eL]
      by_cases c3 : L < 160
      · rw [if_pos (by rw [nI_ltI (by omega) (by decide)]; exact c3)]
        refine wb (P := fun v => v = (nI 1, up (up s 28 L (vp_nar .byte x1.toInt8.toInt32)) 27 1 (nI (L + 1)))) ?_ (fun v hv => ?_)
        · refine wm rfl c3 (by decide) (wsb (wsb (ws ?_)))
          rw [up_p (by decide), eL, nI_add]
        · subst hv
          rw [if_neg (show ¬ nI 1 = 0 by decide)]
          have g := I.f (s' := up (up s 28 L (vp_nar .byte x1.toInt8.toInt32)) 27 1 (nI (L + 1))) ⟨L + 1, by omega, up_eq⟩ (fun p hp => by rw [up_off (by omega), up_off (by omega)])
          refine ws ⟨g.1, g.2, Or.inr (Or.inr ⟨⟨c1, c2⟩, c3, ?_, ?_⟩)⟩ <;> (dsimp only; exact up_eq)
      · rw [if_neg (by rw [nI_ltI (by omega) (by decide)]; exact c3)]
        refine wsb ?_
        rw [if_pos (show nI 0 = 0 from rfl)]
        exact ws ⟨I, fun _ _ => rfl, Or.inr (Or.inl ⟨⟨c1, c2⟩, by omega, rfl, eL⟩)⟩
theorem W_C_end (I : IC s) (hL : L ≤ 160) (eL : s 27 1 = nI L) : wp (C_end x1 s) (fun v => IC v.2 ∧ (∀ k : Nat, k < 4 → v.2 (133 + 2 * k) = s (133 + 2 * k)) ∧
    ((¬ (¬ x1 < nI 0 ∧ ¬ nI L < x1) ∧ v.1 = -1 ∧ v.2 27 1 = nI L) ∨ ((¬ x1 < nI 0 ∧ ¬ nI L < x1) ∧ v.1 = nI L ∧ v.2 27 1 = x1))) := by
  unfold C_end C_within
  rw [eL]
  have bad : ¬ (¬ x1 < nI 0 ∧ ¬ nI L < x1) → wp (some ((-1 : Int32), s)) (fun v => IC v.2 ∧ (∀ k : Nat, k < 4 → v.2 (133 + 2 * k) = s (133 + 2 * k)) ∧
    ((¬ (¬ x1 < nI 0 ∧ ¬ nI L < x1) ∧ v.1 = -1 ∧ v.2 27 1 = nI L) ∨ ((¬ x1 < nI 0 ∧ ¬ nI L < x1) ∧ v.1 = nI L ∧ v.2 27 1 = x1))) := fun q => ws ⟨I, fun _ _ => rfl, Or.inl ⟨q, rfl, eL⟩⟩
  by_cases c1 : x1 < nI 0
  · rw [if_pos c1]; exact bad (fun q => q.1 c1)
  · rw [if_neg c1]
    by_cases c2 : nI L < x1
    · rw [if_pos c2]; exact bad (fun q => q.2 c2)
    · rw [if_neg c2]
      refine wsb ?_
      rw [if_neg (show ¬ nI 1 = 0 by decide)]
      obtain ⟨a, -, ha, e⟩ := in_nI (by omega) ⟨c1, c2⟩ (by decide)
      have g := I.f (s' := up s 27 1 x1) ⟨a, by omega, by rw [up_eq]; exact e⟩ (fun p hp => up_off (by omega))
      refine wsb (ws ⟨g.1, g.2, Or.inr ⟨⟨c1, c2⟩, rfl, ?_⟩⟩)
      dsimp only
      exact up_eq
theorem W_text55 : ∀ (n r fu : Nat) (s : sg), r + n = 2 → n < fu → wp (C_text_55 fu (nI r) s) (fun v => ∀ p, p ≠ 20 → v.2 p = s p)
  | n, r, 0, s, hr, hf => absurd hf (by omega)
  | n, r, fu + 1, s, hr, hf => by
    rw [C_text_55]
    refine wi (fun c => ?_) (fun _ => ws (fun _ _ => rfl))
    rw [nI_ltI (by omega) (by decide)] at c
    obtain ⟨n, rfl⟩ : ∃ m, n = m + 1 := ⟨n - 1, by omega⟩
    refine wm rfl (by omega) (by decide) (wsb ?_)
    rw [nI_add]
    exact wc (W_text55 n (r + 1) fu _ (by omega) (by omega)) (fun a ha p hp => (ha p hp).trans (up_off hp))
theorem W_C_text (I : IC s) : wp (C_text s) (fun v => IC v.2 ∧ (∀ k : Nat, k < 4 → v.2 (133 + 2 * k) = s (133 + 2 * k)) ∧ v.2 27 1 = nI 0) := by
  obtain ⟨L, hL, eL⟩ := I.2.2.2.1
  unfold C_text
  refine wb (W_T_tell eL hL) (fun v hv => wsb ?_)
  have g := I.f (s' := up v.2 27 1 (nI 0)) ⟨0, by omega, up_eq⟩ (fun p hp => by rw [up_off (by omega), hv.2 p (by omega)])
  have e27 : up v.2 27 1 (nI 0) 27 1 = nI 0 := up_eq
  obtain ⟨R, hD⟩ := hv.1.2.2.1
  have hD' : HS (up v.2 27 1 (nI 0)) 29 R 0 := hD.keep (up_p (by decide)) (up_p (by decide)) (up_off (by decide))
  refine wi (fun _ => ws ⟨g.1, g.2, e27⟩) (fun _ => ?_)
  refine wb (W_copyFrom (b := 11) (c := 29) (Or.inl (by decide)) hD') (fun s2 h2 => wsb (wc (W_text55 2 0 FU _ (by omega) (by decide)) (fun w hw => ?_)))
  have g2 := g.1.n h2.2 ⟨R, 0, by omega, h2.1⟩
  obtain ⟨⟨⟨R', h', hh', H'⟩, i2, ⟨-, hF⟩, i4, i5⟩, sa⟩ := g2
  have o : ∀ p, p ≠ 20 → p ≠ 23 → w.2 p = s2 p := fun p h1 h2 => by rw [hw p h1, up_off h2]
  refine ⟨⟨⟨R', h', hh', H'.keep (by rw [o _ (by decide) (by decide)]) (by rw [o _ (by decide) (by decide)]) (o _ (by decide) (by decide))⟩, fun k hk => ?_, ⟨⟨0, by omega, ?_⟩, fun i hi => ?_⟩, by rw [o _ (by decide) (by decide)]; exact i4, fun k hk => by rw [o _ (by omega) (by omega)]; exact i5 k hk⟩, fun k hk => ?_, ?_⟩
  · obtain ⟨R, h, hh, H⟩ := i2 k hk
    exact ⟨R, h, hh, H.keep (by rw [o _ (by omega) (by omega)]) (by rw [o _ (by omega) (by omega)]) (o _ (by omega) (by omega))⟩
  · rw [hw 23 (by decide), up_eq]
  · rw [o 25 (by decide) (by decide), o 24 (by decide) (by decide)]; exact hF i hi
  · rw [o _ (by omega) (by omega), sa.2 k hk, g.2 k hk]
  · rw [o 27 (by decide) (by decide), sa.1, e27]
end TEXT
