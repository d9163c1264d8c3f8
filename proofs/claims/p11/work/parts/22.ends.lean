/-! runs to an end, whatever they cost -/
theorem mrun_fuel {sc : List Int32} : ∀ {n d y : Nat} {q : mS} {x : Option Value × mH × Nat × Nat}, mrun sc n d y q = some x → mrun sc (n + 1) d y q = some x
  | 0, _, _, _, _, h => by cases h
  | n + 1, d, y, q, x, h => by
    rcases mrun_inv h with ⟨q', h1, h2, h3⟩ | ⟨v, h1, rfl⟩ | ⟨y', as, q', d', v, hs', c', s', h1, rfl, h3, h4, h5⟩
    · rw [mrun, h1]
      simp only [h2, cond_true]
      exact mrun_fuel h3
    · rw [mrun, h1]
    · rw [mrun, h1]
      simp only [mrun_fuel h3]
      have g : (mmon q q' && Nat.ble (margs as).length (mmaxL y')) = true := by rw [h4.1, Nat.ble_eq_true_of_le h4.2]; rfl
      rw [g, cond_true]
      exact mrun_fuel h5
theorem mrun_fuels {sc : List Int32} {n d y : Nat} {q : mS} {x : Option Value × mH × Nat × Nat} (h : mrun sc n d y q = some x) : ∀ k, mrun sc (n + k) d y q = some x
  | 0 => h
  | k + 1 => mrun_fuel (mrun_fuels h k)
def mEnds (sc : List Int32) (d y : Nat) (q : mS) (x : Option Value × mH × Nat × Nat) : Prop := ∃ n, mrun sc n d y q = some x
theorem mrun_deep {sc : List Int32} : ∀ {n d y : Nat} {q : mS} {x : Option Value × mH × Nat × Nat}, mrun sc n d y q = some x → mrun sc n (d + 1) y q = some x
  | 0, _, _, _, _, h => by cases h
  | n + 1, d, y, q, x, h => by
    rcases mrun_inv h with ⟨q', h1, h2, h3⟩ | ⟨v, h1, rfl⟩ | ⟨y', as, q', d', v, hs', c', s', h1, rfl, h3, h4, h5⟩
    · rw [mrun, h1]
      simp only [h2, cond_true]
      exact mrun_deep h3
    · rw [mrun, h1]
    · rw [mrun, h1]
      simp only [mrun_deep h3]
      have g : (mmon q q' && Nat.ble (margs as).length (mmaxL y')) = true := by rw [h4.1, Nat.ble_eq_true_of_le h4.2]; rfl
      rw [g, cond_true]
      exact mrun_deep h5
theorem mEnds.deep {sc : List Int32} {d y : Nat} {q : mS} {x : Option Value × mH × Nat × Nat} (h : mEnds sc d y q x) : ∀ k, mEnds sc (d + k) y q x
  | 0 => h
  | k + 1 => by obtain ⟨n, hn⟩ := mEnds.deep h k; exact ⟨n, mrun_deep hn⟩
/-- steps that stay in the method -/
def msteps (sc : List Int32) : Nat → Nat → mS → Option mS
  | 0, _, q => some q
  | k + 1, y, q => match mstep sc y q with
    | some (.inl q') => bif mmon q q' then msteps sc k y q' else none
    | _ => none
theorem mEnds.step {sc : List Int32} {d y : Nat} {q q' : mS} {x : Option Value × mH × Nat × Nat} (h1 : mstep sc y q = some (.inl q')) (h2 : mmon q q' = true) (h : mEnds sc d y q' x) : mEnds sc d y q x := by
  obtain ⟨n, hn⟩ := h
  refine ⟨n + 1, ?_⟩
  rw [mrun, h1]
  simp only [h2, cond_true]
  exact hn
theorem mEnds.steps {sc : List Int32} {d y : Nat} {x : Option Value × mH × Nat × Nat} : ∀ (k : Nat) {q q' : mS}, msteps sc k y q = some q' → mEnds sc d y q' x → mEnds sc d y q x
  | 0, q, q', h, e => by cases h; exact e
  | k + 1, q, q', h, e => by
    rw [msteps] at h
    split at h
    · next q1 h1 =>
      cases g : mmon q q1 with
      | false => rw [g] at h; cases h
      | true => rw [g, cond_true] at h; exact mEnds.step h1 g (mEnds.steps k h e)
    · cases h
theorem mEnds.ret {sc : List Int32} {d y : Nat} {q : mS} {v : Option Value} (h1 : mstep sc y q = some (.inr (.inl v))) : mEnds sc d y q (v, q.2.2.2.1, q.2.2.2.2.1, q.2.2.2.2.2) := ⟨1, by rw [mrun, h1]⟩
theorem mEnds.call {sc : List Int32} {d y y' : Nat} {as : List Value} {q q' : mS} {v : Option Value} {hs' : mH} {c' s' : Nat} {x : Option Value × mH × Nat × Nat} (h1 : mstep sc y q = some (.inr (.inr (y', as, q')))) (h2 : (mmon q q' && Nat.ble (margs as).length (mmaxL y')) = true)
    (h3 : mEnds sc d y' (mentry y' as q'.2.2.2.1) (v, hs', c', s')) (h : mEnds sc (d + 1) y (q'.1, q'.2.1, v.toList ++ q'.2.2.1, hs', q'.2.2.2.2.1 + c', q'.2.2.2.2.2 + s') x) : mEnds sc (d + 1) y q x := by
  obtain ⟨n, hn⟩ := h
  obtain ⟨k, hk⟩ := h3
  refine ⟨n + k + 1, ?_⟩
  rw [mrun, h1]
  have hk' : mrun sc (n + k) d y' (mentry y' as q'.2.2.2.1) = some (v, hs', c', s') := by rw [Nat.add_comm]; exact mrun_fuels hk n
  simp only [hk', h2, cond_true]
  exact mrun_fuels hn k
