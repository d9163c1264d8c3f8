section FRM
variable {sc : List Int32} {σ : Nat → Nat} {y pc : Nat} {loc : mL} {stk : List Value} {hs HS : mH} {nc ns : Nat}
theorem f_ret {ins : Instr} {a b : Nat} {z : Int} {v : Option Value} (hx : mexec sc y ins a b z pc loc stk hs nc ns = some (.inr (.inl v))) : mexec sc y ins a b z pc (rL σ loc) (stk.map (cV σ)) HS nc ns = some (.inr (.inl (v.map (cV σ)))) := by
  cases ins with
  | return_ =>
    obtain ⟨e0, hx1⟩ := tE_inv hx
    subst e0
    obtain ⟨g, hx2⟩ := oB_inv hx1
    cases hx2
    exact (oB_eq g).trans rfl
  | ireturn =>
    obtain ⟨x, st, e0, hx1⟩ := tI_inv hx
    subst e0
    obtain ⟨e0, hx2⟩ := tE_inv hx1
    subst e0
    show ((match mret y with
      | some .int => some (.inr (.inl (some (.int x))))
      | some .boolean => oB (decide (x = 0) || decide (x = 1)) (some (.inr (.inl (some (.int x)))))
      | _ => none : Option mO)) = some (.inr (.inl (v.map (cV σ))))
    split at hx2
    · next e => rw [e]; cases hx2; rfl
    · next e =>
      rw [e]
      obtain ⟨g, hx3⟩ := oB_inv hx2
      cases hx3
      exact (oB_eq g).trans rfl
    · cases hx2
  | lreturn =>
    obtain ⟨x, st, e0, hx1⟩ := tL_inv hx
    subst e0
    obtain ⟨e0, hx2⟩ := tE_inv hx1
    subst e0
    obtain ⟨g, hx3⟩ := oB_inv hx2
    cases hx3
    exact (oB_eq g).trans rfl
  | areturn =>
    obtain ⟨x, st, e0, hx1⟩ := tR_inv hx
    subst e0
    obtain ⟨e0, hx2⟩ := tE_inv hx1
    subst e0
    show ((match mret y with
      | some (.object _) => some (.inr (.inl (some (.ref (σ x)))))
      | _ => none : Option mO)) = some (.inr (.inl (v.map (cV σ))))
    split at hx2
    · next C e => rw [e]; cases hx2; rfl
    · cases hx2
  | _ => exact absurd hx (mnoret rfl _)
theorem f_call (hE : mEmb σ hs HS) {ins : Instr} {a b : Nat} {z : Int} {y' : Nat} {as : List Value} {q : mS} (hx : mexec sc y ins a b z pc loc stk hs nc ns = some (.inr (.inr (y', as, q)))) :
    q.2.2.2 = (hs, nc, ns) ∧ mexec sc y ins a b z pc (rL σ loc) (stk.map (cV σ)) HS nc ns = some (.inr (.inr (y', as.map (cV σ), (q.1, rL σ q.2.1, q.2.2.1.map (cV σ), HS, nc, ns)))) := by
  cases ins with
  | invokevirtual i =>
    have other : ∀ F : Option mO, F = some (.inr (.inr (y', as, q))) → F = (oP (marg a) stk fun as st => tR st fun r rest => hO hs r fun c _ => oB (Nat.beq c (mown a)) (oB (Nat.blt c 6) (oB (Nat.ble (mcat rest) 8) (some (.inr (.inr (a, .ref r :: as, (pc + 3, loc, rest, hs, nc, ns)))))))) → q.2.2.2 = (hs, nc, ns) ∧ (oP (marg a) (stk.map (cV σ)) fun as st => tR st fun r rest => hO HS r fun c _ => oB (Nat.beq c (mown a)) (oB (Nat.blt c 6) (oB (Nat.ble (mcat rest) 8) (some (.inr (.inr (a, .ref r :: as, (pc + 3, rL σ loc, rest, HS, nc, ns)))))))) = some (.inr (.inr (y', as.map (cV σ), (q.1, rL σ q.2.1, q.2.2.1.map (cV σ), HS, nc, ns)))) := by
      intro F h1 h2
      rw [h2] at h1
      obtain ⟨as', st', hp, hx1⟩ := oP_inv h1
      obtain ⟨rr, rest, e0, hx2⟩ := tR_inv hx1
      subst e0
      obtain ⟨c', vs, hr, hx3⟩ := hO_inv hx2
      obtain ⟨g1, hx4⟩ := oB_inv hx3
      obtain ⟨g2, hx5⟩ := oB_inv hx4
      obtain ⟨g3, hx6⟩ := oB_inv hx5
      cases hx6
      exact ⟨rfl, (oP_eq (r_pop hp)).trans ((hO_eq (hE.1 rr _ hr)).trans ((oB_eq g1).trans ((oB_eq g2).trans ((oB_eq (by rw [r_cat]; exact g3)).trans rfl))))⟩
    match b, hx with
    | 0, hx => exact other _ hx rfl
    | 1, hx => exact other _ hx rfl
    | 2, hx => exact other _ hx rfl
    | 3, hx => exact other _ hx rfl
    | 4, hx => exact other _ hx rfl
    | 5, hx => exact other _ hx rfl
    | 6, hx => exact other _ hx rfl
    | 7, hx => exact other _ hx rfl
    | 8, hx =>
      obtain ⟨r, st, e0, hx1⟩ := tR_inv hx
      obtain ⟨-, hx2⟩ := oB_inv hx1
      obtain ⟨-, hx3⟩ := oB_inv hx2
      obtain ⟨-, hx4⟩ := oB_inv hx3
      cases hx4
    | 9, hx =>
      obtain ⟨x, st, e0, hx0⟩ := tI_inv hx
      obtain ⟨r, st, e0, hx1⟩ := tR_inv hx0
      obtain ⟨-, hx2⟩ := oB_inv hx1
      obtain ⟨-, hx3⟩ := oB_inv hx2
      obtain ⟨-, hx4⟩ := oB_inv hx3
      obtain ⟨j, -, hx5⟩ := oI_inv hx4
      cases hx5
    | n + 10, hx => exact other _ hx rfl
  | invokestatic i =>
    have other : ∀ F : Option mO, F = some (.inr (.inr (y', as, q))) → F = (oP (marg a) stk fun as rest => oB (Nat.ble (mcat rest) 8) (some (.inr (.inr (a, as, (pc + 3, loc, rest, hs, nc, ns)))))) → q.2.2.2 = (hs, nc, ns) ∧ (oP (marg a) (stk.map (cV σ)) fun as rest => oB (Nat.ble (mcat rest) 8) (some (.inr (.inr (a, as, (pc + 3, rL σ loc, rest, HS, nc, ns)))))) = some (.inr (.inr (y', as.map (cV σ), (q.1, rL σ q.2.1, q.2.2.1.map (cV σ), HS, nc, ns)))) := by
      intro F h1 h2
      rw [h2] at h1
      obtain ⟨as', rest, hp, hx1⟩ := oP_inv h1
      obtain ⟨g3, hx2⟩ := oB_inv hx1
      cases hx2
      exact ⟨rfl, (oP_eq (r_pop hp)).trans ((oB_eq (by rw [r_cat]; exact g3)).trans rfl)⟩
    match b, hx with
    | 0, hx => exact other _ hx rfl
    | 1, hx => exact other _ hx rfl
    | 2, hx => exact other _ hx rfl
    | 3, hx => exact other _ hx rfl
    | 4, hx =>
      obtain ⟨_, _, _, hx1⟩ := tI_inv hx
      obtain ⟨_, _, _, hx2⟩ := tI_inv hx1
      obtain ⟨_, _, _, hx3⟩ := tR_inv hx2
      obtain ⟨_, hx4⟩ := oB_inv hx3
      obtain ⟨_, _, _, hx5⟩ := tI_inv hx4
      obtain ⟨_, _, _, hx5b⟩ := tR_inv hx5
      obtain ⟨_, hx6⟩ := oB_inv hx5b
      obtain ⟨_, _, _, hx7⟩ := hA_inv hx6
      obtain ⟨_, _, _, hx8⟩ := hA_inv hx7
      obtain ⟨_, hx9⟩ := oB_inv hx8
      obtain ⟨_, hx10⟩ := oB_inv hx9
      obtain ⟨_, hx11⟩ := oN_inv hx10
      obtain ⟨_, hx12⟩ := oN_inv hx11
      obtain ⟨_, hx13⟩ := oN_inv hx12
      obtain ⟨_, hx14⟩ := oB_inv hx13
      obtain ⟨_, hx15⟩ := oB_inv hx14
      obtain ⟨_, hx16⟩ := oB_inv hx15
      cases hx16
    | 5, hx =>
      obtain ⟨_, _, _, hx1⟩ := tI_inv hx
      obtain ⟨_, _, _, hx2⟩ := tI_inv hx1
      obtain ⟨_, hx3⟩ := oB_inv hx2
      cases hx3
    | 6, hx =>
      obtain ⟨_, _, _, hx1⟩ := tI_inv hx
      obtain ⟨_, _, _, hx2⟩ := tI_inv hx1
      obtain ⟨_, hx3⟩ := oB_inv hx2
      cases hx3
    | 7, hx =>
      obtain ⟨_, _, _, hx1⟩ := tL_inv hx
      obtain ⟨_, _, _, hx2⟩ := tL_inv hx1
      obtain ⟨_, hx3⟩ := oB_inv hx2
      cases hx3
    | n + 8, hx => exact other _ hx rfl
  | invokespecial i =>
    have other : ∀ F : Option mO, F = some (.inr (.inr (y', as, q))) → F = (oP (marg a) stk fun as st => tR st fun r rest => oB (Nat.ble (mcat rest) 8) (some (.inr (.inr (a, .ref r :: as, (pc + 3, loc, rest, hs, nc, ns)))))) → q.2.2.2 = (hs, nc, ns) ∧ (oP (marg a) (stk.map (cV σ)) fun as st => tR st fun r rest => oB (Nat.ble (mcat rest) 8) (some (.inr (.inr (a, .ref r :: as, (pc + 3, rL σ loc, rest, HS, nc, ns)))))) = some (.inr (.inr (y', as.map (cV σ), (q.1, rL σ q.2.1, q.2.2.1.map (cV σ), HS, nc, ns)))) := by
      intro F h1 h2
      rw [h2] at h1
      obtain ⟨as', st', hp, hx1⟩ := oP_inv h1
      obtain ⟨rr, rest, e0, hx2⟩ := tR_inv hx1
      subst e0
      obtain ⟨g3, hx3⟩ := oB_inv hx2
      cases hx3
      exact ⟨rfl, (oP_eq (r_pop hp)).trans ((oB_eq (by rw [r_cat]; exact g3)).trans rfl)⟩
    match b, hx with
    | 0, hx => exact other _ hx rfl
    | 1, hx => exact other _ hx rfl
    | 2, hx =>
      obtain ⟨_, _, _, hx1⟩ := tR_inv hx
      obtain ⟨_, hx2⟩ := oB_inv hx1
      cases hx2
    | n + 3, hx => exact other _ hx rfl
  | _ => exact absurd hx (mnocall rfl _)
end FRM
theorem rL_args (σ : Nat → Nat) : ∀ as : List Value, rL σ (margs as) = margs (as.map (cV σ))
  | [] => rfl
  | v :: vs => by
    have ih := rL_args σ vs
    rw [List.map_cons, margs, margs, cV_cat, ← ih]
    cases Nat.beq v.category 2 <;> rfl
theorem rL_entry (σ : Nat → Nat) (y : Nat) (as : List Value) (hs HS : mH) : mentry y (as.map (cV σ)) HS = (0, rL σ (mentry y as hs).2.1, [], HS, 0, 0) := by
  show (0, margs (as.map (cV σ)) ++ List.replicate (mmaxL y - (margs (as.map (cV σ))).length) none, [], HS, 0, 0) = (0, rL σ (margs as ++ List.replicate (mmaxL y - (margs as).length) none), [], HS, 0, 0)
  rw [← rL_args]
  have e : (rL σ (margs as)).length = (margs as).length := List.length_map _
  rw [e]
  simp [rL]
theorem mstep_at {sc : List Int32} {y : Nat} {q : mS} {o : mO} (h : mstep sc y q = some o) : ∃ i : mI, mfetch y q.1 = some i ∧ mexec sc y i.2.1 i.2.2.2.1 i.2.2.2.2.1 i.2.2.2.2.2 q.1 q.2.1 q.2.2.1 q.2.2.2.1 q.2.2.2.2.1 q.2.2.2.2.2 = some o := by
  unfold mstep at h
  split at h
  · cases h
  · next i hi => exact ⟨i, hi, h⟩
theorem mstep_of {sc : List Int32} {y : Nat} {q : mS} {i : mI} (h : mfetch y q.1 = some i) : mstep sc y q = mexec sc y i.2.1 i.2.2.2.1 i.2.2.2.2.1 i.2.2.2.2.2 q.1 q.2.1 q.2.2.1 q.2.2.2.1 q.2.2.2.2.1 q.2.2.2.2.2 := by
  unfold mstep; rw [h]
/-- THE FRAME of a run that makes nothing -/
theorem f_run {sc : List Int32} {σ : Nat → Nat} : ∀ (n d y : Nat) (q : mS) (HS : mH) (v : Option Value) (hs' : mH), y < 184 → mrun sc n d y q = some (v, hs', q.2.2.2.2.1, q.2.2.2.2.2) → mEmb σ q.2.2.2.1 HS →
    ∃ HS', mrun sc n d y (q.1, rL σ q.2.1, q.2.2.1.map (cV σ), HS, q.2.2.2.2.1, q.2.2.2.2.2) = some (v.map (cV σ), HS', q.2.2.2.2.1, q.2.2.2.2.2) ∧ mEmb σ hs' HS' ∧ mOff σ q.2.2.2.1.length HS HS' ∧ hs'.length = q.2.2.2.1.length
  | 0, _, _, _, _, _, _, _, h, _ => by cases h
  | n + 1, d, y, q, HS, v, hs', hy, h, hE => by
    obtain ⟨pc, loc, stk, hs, nc, ns⟩ := q
    dsimp only at h hE ⊢
    rcases mrun_inv h with ⟨q', h1, h2, h3⟩ | ⟨w, h1, h2⟩ | ⟨y', as, q', d', w, hs1, c1, s1, h1, h2, h3, h4, h5⟩
    · obtain ⟨i, hi, hx⟩ := mstep_at h1
      have m1 := mmon_le h2
      have m2 := mrun_mono h3
      dsimp only at m1 m2
      have e1 : q'.2.2.2.2.1 = nc := by omega
      have e2 : q'.2.2.2.2.2 = ns := by omega
      obtain ⟨HS1, g1, g2, g3, g4⟩ := f_next hy hE hx e1
      have h3' : mrun sc n d y q' = some (v, hs', q'.2.2.2.2.1, q'.2.2.2.2.2) := by rw [e1, e2]; exact h3
      obtain ⟨HS2, k1, k2, k3, k4⟩ := f_run n d y q' HS1 v hs' hy h3' g2
      rw [g4] at k3 k4
      refine ⟨HS2, ?_, k2, g3.tr k3, k4⟩
      rw [mrun, mstep_of (q := (pc, rL σ loc, stk.map (cV σ), HS, nc, ns)) hi]
      dsimp only
      rw [g1]
      dsimp only
      have hm : mmon (pc, rL σ loc, stk.map (cV σ), HS, nc, ns) (q'.1, rL σ q'.2.1, q'.2.2.1.map (cV σ), HS1, q'.2.2.2.2.1, q'.2.2.2.2.2) = true := h2
      rw [hm, cond_true, k1, e1, e2]
    · obtain ⟨i, hi, hx⟩ := mstep_at h1
      cases h2
      refine ⟨HS, ?_, hE, mOff.rf, rfl⟩
      rw [mrun, mstep_of (q := (pc, rL σ loc, stk.map (cV σ), HS, nc, ns)) hi]
      dsimp only
      rw [f_ret (σ := σ) (HS := HS) hx]
    · obtain ⟨i, hi, hx⟩ := mstep_at h1
      obtain ⟨q1, g1⟩ := f_call hE hx
      obtain ⟨ins, len, a, b, z, hd, hk, hx2⟩ := mstep_inv h1
      have hy' : y' < 184 := (mcall_inv hk hx2).2.1
      obtain ⟨pc', loc', rest, hsq, ncq, nsq⟩ := q'
      cases q1
      subst h2
      have m2 := mrun_mono h5
      dsimp only at m2
      have e1 : c1 = 0 := by omega
      have e2 : s1 = 0 := by omega
      subst e1
      subst e2
      obtain ⟨HS1, k1, k2, k3, k4⟩ := f_run n d' y' (mentry y' as hs) HS w hs1 hy' h3 hE
      have k1' : mrun sc n d' y' (mentry y' (as.map (cV σ)) HS) = some (w.map (cV σ), HS1, 0, 0) := by
        rw [rL_entry σ y' as hs HS]; exact k1
      obtain ⟨HS2, j1, j2, j3, j4⟩ := f_run n (d' + 1) y (pc', loc', w.toList ++ rest, hs1, nc, ns) HS1 v hs' hy h5 k2
      have k4' : hs1.length = hs.length := k4
      dsimp only at j3 j4
      rw [k4'] at j3 j4
      refine ⟨HS2, ?_, j2, k3.tr j3, j4⟩
      rw [mrun, mstep_of (q := (pc, rL σ loc, stk.map (cV σ), HS, nc, ns)) hi]
      dsimp only
      rw [g1]
      dsimp only
      rw [k1']
      dsimp only
      have hm : (mmon (pc, rL σ loc, stk.map (cV σ), HS, nc, ns) (pc', rL σ loc', rest.map (cV σ), HS, nc, ns) && Nat.ble (margs (as.map (cV σ))).length (mmaxL y')) = true := by
        have el : (margs (as.map (cV σ))).length = (margs as).length := by rw [← rL_args]; exact List.length_map _
        rw [el, Nat.ble_eq_true_of_le h4.2]
        have : mmon (pc, rL σ loc, stk.map (cV σ), HS, nc, ns) (pc', rL σ loc', rest.map (cV σ), HS, nc, ns) = true := h4.1
        rw [this]; rfl
      rw [hm, cond_true, ← optmap]
      exact j1
