/-! the full relation, call by call -/
section RELF
variable {s t : sg}
theorem RF.qu {s' t' : sg} (F : RF s t) (oS : offT s s') (oT : offM t t') : RF s' t' := by
  obtain ⟨⟨R, G⟩, I, M⟩ := F
  exact ⟨⟨R, G.qu oS oT⟩, (I.t oS).1, (M.m oT).1⟩
theorem C_eq {f g : sg → Option (Int32 × sg)} (h : w2 (f s) (g t) JF) : ∃ (u : Int32) (s' : sg) (t' : sg), f s = some (u, s') ∧ g t = some (u, t') ∧ RF s' t' := by
  obtain ⟨⟨u, s'⟩, ⟨w, t'⟩, ea, eb, e, F⟩ := h
  obtain rfl : u = w := e
  exact ⟨u, s', t', ea, eb, F⟩
theorem C_st {f g : sg → Option (Int32 × sg)} (h : w2 (f s) (g t) JF) : ∃ (u w : Int32) (s' : sg) (t' : sg), f s = some (u, s') ∧ g t = some (w, t') ∧ RF s' t' := by
  obtain ⟨⟨u, s'⟩, ⟨w, t'⟩, ea, eb, e, F⟩ := h
  exact ⟨u, w, s', t', ea, eb, F⟩
theorem C_ne {f g : sg → Option Int32} (F : RF s t) (h : w2 (f s) (g t) (fun u w => u = w)) : ∃ (u : Int32), f s = some u ∧ g t = some u ∧ RF s t := by
  obtain ⟨u, w, ea, eb, rfl⟩ := h
  exact ⟨u, ea, eb, F⟩
theorem C_no {f g : sg → Option Int32} (F : RF s t) (h : w2 (f s) (g t) (fun u w => u = w)) : ∃ (u w : Int32), f s = some u ∧ g t = some w ∧ RF s t := by
  obtain ⟨u, w, ea, eb, _⟩ := h
  exact ⟨u, w, ea, eb, F⟩
theorem C_qu {α : Type} {f g : sg → Option (α × sg)} (F : RF s t) (h : wp (f s) (fun v => offT s v.2)) (k : wp (g t) (fun v => offM t v.2)) : ∃ (u w : α) (s' : sg) (t' : sg), f s = some (u, s') ∧ g t = some (w, t') ∧ RF s' t' := by
  obtain ⟨⟨u, s'⟩, ea, a⟩ := h
  obtain ⟨⟨w, t'⟩, eb, b⟩ := k
  exact ⟨u, w, s', t', ea, eb, F.qu a b⟩
theorem C_qe {α : Type} {f g : sg → Option (α × sg)} (F : RF s t) (h : wp (f s) (fun v => offT s v.2)) (k : wp (g t) (fun v => offM t v.2)) (q : w2 (f s) (g t) (fun a b => a.1 = b.1)) : ∃ (u : α) (s' : sg) (t' : sg), f s = some (u, s') ∧ g t = some (u, t') ∧ RF s' t' := by
  obtain ⟨⟨u, s'⟩, ⟨w, t'⟩, ea, eb, e, a, b⟩ := q.add h k
  obtain rfl : u = w := e
  exact ⟨u, s', t', ea, eb, F.qu a b⟩
end RELF
theorem RF0 : RF s0 t0 := by
  refine ⟨⟨0, by decide, ⟨by decide, by decide, ⟨0, by decide, by decide, fun r hr => absurd hr (by omega)⟩, by decide, ⟨by decide, 0, by decide, by decide⟩, ⟨by decide, 0, by decide, by decide⟩, fun r hr => absurd hr (by omega), fun r hr => absurd hr (by omega), fun r hr => absurd hr (by omega), fun r hr => absurd hr (by omega), fun r hr => absurd hr (by omega), (show ∀ i, i < 8 → s0 (11 + 7) i = pg t0 0 (41 + i) + nI 10 by decide)⟩, fun k hk => Or.inl ?_, ⟨0, by decide, by decide, by decide, fun i hi => absurd hi (by omega)⟩, ⟨0, by decide, by decide, by decide, fun i hi => absurd hi (by omega)⟩, fun k hk => ⟨Or.inl ?_, 0, by decide, ?_, ?_, fun i hi => absurd hi (by omega)⟩, by decide, ⟨(show ∀ j, j < 8 → t0 14 j = nI (enL.getD j 0) by decide), (show ∀ j, j < 29 → t0 15 j = nI (leL.getD j 0) by decide)⟩⟩, RA0.1, RA0.2.1⟩
  · exact (by decide : ∀ k, k < 2 → s0 20 k = nI 0 ∧ t0 19 k = nI 0) k hk
  · exact (by decide : ∀ k, k < 4 → s0 (133 + 2 * k) 0 = -1 ∧ t0 20 k = -4) k hk
  · exact (by decide : ∀ k, k < 4 → s0 (133 + 2 * k) 1 = nI 0) k hk
  · exact (by decide : ∀ k, k < 4 → t0 21 k = nI 0) k hk
