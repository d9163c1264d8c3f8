section Q96
/-! what is kept between the calls: both tapes are of one length -/
def RA (s t : sg) : Prop := IC s ∧ IM t ∧ s 27 1 = t 10 8
theorem wand {α : Type} {o : Option α} {P Q : α → Prop} (h : wp o P) (k : wp o Q) : wp o (fun a => P a ∧ Q a) := by
  obtain ⟨a, rfl, ha⟩ := h
  obtain ⟨b, e, hb⟩ := k
  cases e
  exact ⟨a, rfl, ha, hb⟩
section REL
variable {s t : sg} {x1 x2 x3 x4 x5 : Int32}
theorem V_feedX {L : Nat} (hL : L ≤ 160) (eL : t 10 8 = nI L) : wp (M_feed x1 t) (fun v => ((¬ (¬ x1 < nI 0 ∧ ¬ nI 127 < x1) ∧ v.1 = -1 ∧ v.2 10 8 = nI L) ∨ ((¬ x1 < nI 0 ∧ ¬ nI 127 < x1) ∧ L = 160 ∧ v.1 = -3 ∧ v.2 10 8 = nI L) ∨ ((¬ x1 < nI 0 ∧ ¬ nI 127 < x1) ∧ L < 160 ∧ v.1 = nI (L + 1) ∧ v.2 10 8 = nI (L + 1)))) := by
  unfold M_feed
  refine wIn (lo := nI 0) (hi := nI 127) rfl rfl (fun c => ws (Or.inl ⟨c, rfl, eL⟩)) (fun c1 c2 => ?_)
  rw [eL]
  refine wi (fun c => ws (Or.inr (Or.inl ⟨⟨c1, c2⟩, (nI_eq (by omega) (by decide)).mp c, rfl, eL⟩))) (fun c => ?_)
  have hL2 : L ≠ 160 := fun e => c (by rw [e])
  refine wm rfl (by omega) (by decide) (wsb (wsb (ws (Or.inr (Or.inr ⟨⟨c1, c2⟩, by omega, ?_, ?_⟩)))))
  · show up (up t 13 L x1) 10 8 (up t 13 L x1 10 8 + nI 1) 10 8 = _
    rw [up_eq, up_p (by decide), eL, nI_add]
  · show up (up t 13 L x1) 10 8 (up t 13 L x1 10 8 + nI 1) 10 8 = _
    rw [up_eq, up_p (by decide), eL, nI_add]
theorem V_endX {L : Nat} (eL : t 10 8 = nI L) : wp (M_end x1 t) (fun v => ((¬ (¬ x1 < nI 0 ∧ ¬ nI L < x1) ∧ v.1 = -1 ∧ v.2 10 8 = nI L) ∨ ((¬ x1 < nI 0 ∧ ¬ nI L < x1) ∧ v.1 = nI L ∧ v.2 10 8 = x1))) := by
  unfold M_end
  rw [eL]
  exact wIn (lo := nI 0) (hi := nI L) rfl rfl (fun c => ws (Or.inl ⟨c, rfl, eL⟩)) (fun c1 c2 => wsb (ws (Or.inr ⟨⟨c1, c2⟩, rfl, (show up t 10 8 x1 10 8 = x1 from up_eq)⟩)))
theorem B_feed (R : RA s t) : ∃ (u : Int32) (s' : sg) (t' : sg), C_feed x1 s = some (u, s') ∧ M_feed x1 t = some (u, t') ∧ RA s' t' := by
  obtain ⟨I, J, e⟩ := R
  obtain ⟨L, hL, eL⟩ := I.2.2.2.1
  have eM : t 10 8 = nI L := e.symm.trans eL
  obtain ⟨⟨u, s'⟩, ea, I', -, ha⟩ := W_C_feed (x1 := x1) I hL eL
  obtain ⟨⟨w, t'⟩, eb, ⟨J', -⟩, hb⟩ := wand (V_M_feed (x1 := x1) J) (V_feedX (x1 := x1) hL eM)
  have q : u = w ∧ s' 27 1 = t' 10 8 := by
    dsimp only at ha hb
    rcases ha with ⟨a1, a2, a3⟩ | ⟨a1, a2, a3, a4⟩ | ⟨a1, a2, a3, a4⟩ <;> rcases hb with ⟨b1, b2, b3⟩ | ⟨b1, b2, b3, b4⟩ | ⟨b1, b2, b3, b4⟩
    · exact ⟨a2.trans b2.symm, a3.trans b3.symm⟩
    · exact absurd b1 a1
    · exact absurd b1 a1
    · exact absurd a1 b1
    · exact ⟨a3.trans b3.symm, a4.trans b4.symm⟩
    · omega
    · exact absurd a1 b1
    · omega
    · exact ⟨a3.trans b3.symm, a4.trans b4.symm⟩
  obtain ⟨rfl, q2⟩ := q
  exact ⟨u, s', t', ea, eb, I', J', q2⟩
theorem B_end (R : RA s t) : ∃ (u : Int32) (s' : sg) (t' : sg), C_end x1 s = some (u, s') ∧ M_end x1 t = some (u, t') ∧ RA s' t' := by
  obtain ⟨I, J, e⟩ := R
  obtain ⟨L, hL, eL⟩ := I.2.2.2.1
  have eM : t 10 8 = nI L := e.symm.trans eL
  obtain ⟨⟨u, s'⟩, ea, I', -, ha⟩ := W_C_end (x1 := x1) I hL eL
  obtain ⟨⟨w, t'⟩, eb, ⟨J', -⟩, hb⟩ := wand (V_M_end (x1 := x1) J) (V_endX (x1 := x1) eM)
  have q : u = w ∧ s' 27 1 = t' 10 8 := by
    dsimp only at ha hb
    rcases ha with ⟨a1, a2, a3⟩ | ⟨a1, a2, a3⟩ <;> rcases hb with ⟨b1, b2, b3⟩ | ⟨b1, b2, b3⟩
    · exact ⟨a2.trans b2.symm, a3.trans b3.symm⟩
    · exact absurd b1 a1
    · exact absurd a1 b1
    · exact ⟨a2.trans b2.symm, a3.trans b3.symm⟩
  obtain ⟨rfl, q2⟩ := q
  exact ⟨u, s', t', ea, eb, I', J', q2⟩
/-- a call that changes state on both sides -/
theorem B_st {α : Type} {f : sg → Option (α × sg)} {g : sg → Option (α × sg)} (R : RA s t) (h : wp (f s) (fun v => IC v.2 ∧ SA s v.2)) (k : wp (g t) (fun v => IM v.2 ∧ SB t v.2)) : ∃ (u w : α) (s' : sg) (t' : sg), f s = some (u, s') ∧ g t = some (w, t') ∧ RA s' t' := by
  obtain ⟨⟨u, s'⟩, ea, I', a, -⟩ := h
  obtain ⟨⟨w, t'⟩, eb, J', b, -⟩ := k
  exact ⟨u, w, s', t', ea, eb, I', J', a.trans (R.2.2.trans b.symm)⟩
/-- a question -/
theorem B_qu {α : Type} {f : sg → Option (α × sg)} {g : sg → Option (α × sg)} (R : RA s t) (h : wp (f s) (fun v => offT s v.2)) (k : wp (g t) (fun v => offM t v.2)) : ∃ (u w : α) (s' : sg) (t' : sg), f s = some (u, s') ∧ g t = some (w, t') ∧ RA s' t' :=
  B_st R (wc h (fun _ o => R.1.t o)) (wc k (fun _ o => R.2.1.m o))
/-- a question that writes nothing -/
theorem B_no {α : Type} {f : sg → Option α} {g : sg → Option α} (R : RA s t) (h : wp (f s) (fun _ => True)) (k : wp (g t) (fun _ => True)) : ∃ (u w : α), f s = some u ∧ g t = some w ∧ RA s t := by
  obtain ⟨u, ea, -⟩ := h
  obtain ⟨w, eb, -⟩ := k
  exact ⟨u, w, ea, eb, R⟩
theorem B_text (R : RA s t) : ∃ (u w : Int32) (s' : sg) (t' : sg), C_text s = some (u, s') ∧ M_text t = some (w, t') ∧ RA s' t' := by
  obtain ⟨⟨u, s'⟩, ea, I', -, a⟩ := W_C_text R.1
  obtain ⟨⟨w, t'⟩, eb, J', b, -⟩ := V_M_textI R.2.1
  exact ⟨u, w, s', t', ea, eb, I', J', a.trans b.symm⟩
theorem B_sheet (R : RA s t) : ∃ (u w : Int32) (s' : sg) (t' : sg), C_sheet x1 x2 x3 s = some (u, s') ∧ M_sheet x1 x2 x3 t = some (w, t') ∧ RA s' t' := by
  obtain ⟨⟨u, s'⟩, ea, I', a, -⟩ := W_C_sheet (x1 := x1) (x2 := x2) (x3 := x3) R.1
  obtain ⟨⟨w, t'⟩, eb, J', b⟩ := V_M_sheet (x1 := x1) (x2 := x2) (x3 := x3) R.2.1
  exact ⟨u, w, s', t', ea, eb, I', J', a.trans (R.2.2.trans b.symm)⟩
end REL
theorem RA0 : RA s0 t0 := by
  have hs : ∀ b : Nat, (b = 11 ∨ b = 37 ∨ b = 45) → HS s0 b 0 0 := fun b hb => by
    rcases hb with rfl | rfl | rfl
    · exact ⟨by decide, by decide, by decide, fun r hr => Or.inl ((by decide : ∀ r, r < 6 → s0 15 r = -1) r hr)⟩
    · exact ⟨by decide, by decide, by decide, fun r hr => Or.inl ((by decide : ∀ r, r < 6 → s0 41 r = -1) r hr)⟩
    · exact ⟨by decide, by decide, by decide, fun r hr => Or.inl ((by decide : ∀ r, r < 6 → s0 49 r = -1) r hr)⟩
  refine ⟨⟨⟨0, 0, by decide, hs 11 (by decide)⟩, fun k hk => ⟨0, 0, by decide, hs _ (by omega)⟩, ⟨⟨0, by decide, by decide⟩, fun i hi => ⟨⟨0, by decide, ?_⟩, 0, by decide, ?_⟩⟩, ⟨0, by decide, by decide⟩, fun k hk => ⟨0, by decide, ?_⟩⟩, ⟨⟨0, 0, by decide, by decide, by decide, by decide, by decide⟩, fun k hk => ⟨0, by decide, ?_⟩, ⟨0, by decide, by decide, fun e he => absurd he (by omega)⟩, ⟨0, by decide, by decide⟩, fun k hk => ⟨0, by decide, ?_⟩, ⟨fun j => [0, 5, 10, 14, 18, 22, 26, 29].getD j 0, ?_, ?_⟩⟩, by decide⟩
  · exact (by decide : ∀ i, i < 6 → s0 25 i = nI 0) i hi
  · exact (by decide : ∀ i, i < 6 → s0 24 i = nI 0) i hi
  · exact (by decide : ∀ k, k < 4 → s0 (133 + 2 * k) 1 = nI 0) k hk
  · exact (by decide : ∀ k, k < 2 → t0 11 (52 * (k + 1) + 49) = nI 0) k hk
  · exact (by decide : ∀ k, k < 4 → t0 21 k = nI 0) k hk
  · exact fun j hj => (by decide : ∀ j, j < 8 → t0 14 j = nI ([0, 5, 10, 14, 18, 22, 26, 29].getD j 0)) j (by omega)
  · decide
end Q96
section Q96b
/-! the full relation, call by call -/
section RELF
variable {s t : sg}
theorem RF.qu {s' t' : sg} (F : RF s t) (oS : offT s s') (oT : offM t t') : RF s' t' := by
  obtain ⟨⟨R, G⟩, I, M⟩ := F
  exact ⟨⟨R, G.qu oS oT⟩, (I.t oS).1, (M.m oT).1⟩
theorem C_eq {f g : sg → Option (Int32 × sg)} (h : w2 (f s) (g t) JF) : ∃ (u : Int32) (s' : sg) (t' : sg), f s = some (u, s') ∧ g t = some (u, t') ∧ RF s' t' := by
  obtain ⟨⟨u, s'⟩, ⟨w, t'⟩, ea, eb, e, F⟩ := h
  obtain rfl : u = w := e
  exact ⟨u, s', t', ea, eb, F⟩
theorem C_st {f g : sg → Option (Int32 × sg)} (h : w2 (f s) (g t) JF) : ∃ (u w : Int32) (s' : sg) (t' : sg), f s = some (u, s') ∧ g t = some (w, t') ∧ RF s' t' := by
  obtain ⟨⟨u, s'⟩, ⟨w, t'⟩, ea, eb, e, F⟩ := h
  exact ⟨u, w, s', t', ea, eb, F⟩
theorem C_ne {f g : sg → Option Int32} (F : RF s t) (h : w2 (f s) (g t) (fun u w => u = w)) : ∃ (u : Int32), f s = some u ∧ g t = some u ∧ RF s t := by
  obtain ⟨u, w, ea, eb, rfl⟩ := h
  exact ⟨u, ea, eb, F⟩
theorem C_no {f g : sg → Option Int32} (F : RF s t) (h : w2 (f s) (g t) (fun u w => u = w)) : ∃ (u w : Int32), f s = some u ∧ g t = some w ∧ RF s t := by
  obtain ⟨u, w, ea, eb, _⟩ := h
  exact ⟨u, w, ea, eb, F⟩
theorem C_qu {α : Type} {f g : sg → Option (α × sg)} (F : RF s t) (h : wp (f s) (fun v => offT s v.2)) (k : wp (g t) (fun v => offM t v.2)) : ∃ (u w : α) (s' : sg) (t' : sg), f s = some (u, s') ∧ g t = some (w, t') ∧ RF s' t' := by
  obtain ⟨⟨u, s'⟩, ea, a⟩ := h
  obtain ⟨⟨w, t'⟩, eb, b⟩ := k
  exact ⟨u, w, s', t', ea, eb, F.qu a b⟩
theorem C_qe {α : Type} {f g : sg → Option (α × sg)} (F : RF s t) (h : wp (f s) (fun v => offT s v.2)) (k : wp (g t) (fun v => offM t v.2)) (q : w2 (f s) (g t) (fun a b => a.1 = b.1)) : ∃ (u : α) (s' : sg) (t' : sg), f s = some (u, s') ∧ g t = some (u, t') ∧ RF s' t' := by
  obtain ⟨⟨u, s'⟩, ⟨w, t'⟩, ea, eb, e, a, b⟩ := q.add h k
  obtain rfl : u = w := e
  exact ⟨u, s', t', ea, eb, F.qu a b⟩
end RELF
theorem RF0 : RF s0 t0 := by
  refine ⟨⟨0, by decide, ⟨by decide, by decide, ⟨0, by decide, by decide, fun r hr => absurd hr (by omega)⟩, by decide, ⟨by decide, 0, by decide, by decide⟩, ⟨by decide, 0, by decide, by decide⟩, fun r hr => absurd hr (by omega), fun r hr => absurd hr (by omega), fun r hr => absurd hr (by omega), fun r hr => absurd hr (by omega), fun r hr => absurd hr (by omega), (show ∀ i, i < 8 → s0 (11 + 7) i = pg t0 0 (41 + i) + nI 10 by decide)⟩, fun k hk => Or.inl ?_, ⟨0, by decide, by decide, by decide, fun i hi => absurd hi (by omega)⟩, ⟨0, by decide, by decide, by decide, fun i hi => absurd hi (by omega)⟩, fun k hk => ⟨Or.inl ?_, 0, by decide, ?_, ?_, fun i hi => absurd hi (by omega)⟩, by decide, ⟨(show ∀ j, j < 8 → t0 14 j = nI (enL.getD j 0) by decide), (show ∀ j, j < 29 → t0 15 j = nI (leL.getD j 0) by decide)⟩⟩, RA0.1, RA0.2.1⟩
  · exact (by decide : ∀ k, k < 2 → s0 20 k = nI 0 ∧ t0 19 k = nI 0) k hk
  · exact (by decide : ∀ k, k < 4 → s0 (133 + 2 * k) 0 = -1 ∧ t0 20 k = -4) k hk
  · exact (by decide : ∀ k, k < 4 → s0 (133 + 2 * k) 1 = nI 0) k hk
  · exact (by decide : ∀ k, k < 4 → t0 21 k = nI 0) k hk
end Q96b
