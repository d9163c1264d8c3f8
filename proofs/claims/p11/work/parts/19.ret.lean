/-- only a return returns -/
def mretop (ins : Instr) : Bool := match ins with
  | .return_ => true
  | .ireturn => true
  | .lreturn => true
  | .areturn => true
  | _ => false
def noR (x : Option mO) : Prop := ∀ t, x ≠ some (.inr (.inl t))
theorem noR_none : noR none := fun _ h => by cases h
theorem noR_go {pc : Nat} {loc : mL} {stk : List Value} {hs : mH} {nc ns : Nat} : noR (mgo pc loc stk hs nc ns) := fun _ h => by cases h
theorem noR_jp {pc : Nat} {off : Int} {loc : mL} {stk : List Value} {hs : mH} {nc ns : Nat} : noR (mjp pc off loc stk hs nc ns) := fun t h => by
  unfold mjp at h
  split at h
  · exact noR_go t h
  · cases h
theorem noR_call {v : Nat × List Value × mS} : noR (some (.inr (.inr v))) := fun _ h => by cases h
theorem noR_oP {n : Nat} {stk : List Value} {F : List Value → List Value → Option mO} (k : ∀ x st, noR (F x st)) : noR (oP n stk F) := fun t h => by obtain ⟨x, st, -, h⟩ := oP_inv h; exact k x st t h
theorem noR_tI {stk : List Value} {F : Int32 → List Value → Option mO} (k : ∀ x st, noR (F x st)) : noR (tI stk F) := fun t h => by obtain ⟨x, st, -, h⟩ := tI_inv h; exact k x st t h
theorem noR_tL {stk : List Value} {F : Int64 → List Value → Option mO} (k : ∀ x st, noR (F x st)) : noR (tL stk F) := fun t h => by obtain ⟨x, st, -, h⟩ := tL_inv h; exact k x st t h
theorem noR_tR {stk : List Value} {F : Nat → List Value → Option mO} (k : ∀ x st, noR (F x st)) : noR (tR stk F) := fun t h => by obtain ⟨x, st, -, h⟩ := tR_inv h; exact k x st t h
theorem noR_tV {stk : List Value} {F : Value → List Value → Option mO} (k : ∀ x st, noR (F x st)) : noR (tV stk F) := fun t h => by obtain ⟨x, st, -, h⟩ := tV_inv h; exact k x st t h
theorem noR_tE {stk : List Value} {x : Option mO} (k : noR x) : noR (tE stk x) := fun t h => k t (tE_inv h).2
theorem noR_lI {loc : mL} {i : Nat} {F : Int32 → Option mO} (k : ∀ x, noR (F x)) : noR (lI loc i F) := fun t h => by obtain ⟨x, -, h⟩ := lI_inv h; exact k x t h
theorem noR_lL {loc : mL} {i : Nat} {F : Int64 → Option mO} (k : ∀ x, noR (F x)) : noR (lL loc i F) := fun t h => by obtain ⟨x, -, h⟩ := lL_inv h; exact k x t h
theorem noR_lR {loc : mL} {i : Nat} {F : Nat → Option mO} (k : ∀ x, noR (F x)) : noR (lR loc i F) := fun t h => by obtain ⟨x, -, h⟩ := lR_inv h; exact k x t h
theorem noR_hO {hs : mH} {r : Nat} {F : Nat → List Value → Option mO} (k : ∀ x st, noR (F x st)) : noR (hO hs r F) := fun t h => by obtain ⟨x, st, -, h⟩ := hO_inv h; exact k x st t h
theorem noR_hA {hs : mH} {r : Nat} {F : Nat → List Int32 → Option mO} (k : ∀ x st, noR (F x st)) : noR (hA hs r F) := fun t h => by obtain ⟨x, st, -, h⟩ := hA_inv h; exact k x st t h
theorem noR_oB {b : Bool} {x : Option mO} (k : noR x) : noR (oB b x) := fun t h => k t (oB_inv h).2
theorem noR_oI {i : Int32} {n : Nat} {F : Nat → Option mO} (k : ∀ x, noR (F x)) : noR (oI i n F) := fun t h => by obtain ⟨x, -, h⟩ := oI_inv h; exact k x t h
theorem noR_oV {vs : List Value} {n : Nat} {F : Value → Option mO} (k : ∀ x, noR (F x)) : noR (oV vs n F) := fun t h => by obtain ⟨x, -, h⟩ := oV_inv h; exact k x t h
theorem noR_oR {vs : List Value} {n : Nat} {F : Nat → Option mO} (k : ∀ x, noR (F x)) : noR (oR vs n F) := fun t h => by obtain ⟨x, -, h⟩ := oR_inv h; exact k x t h
theorem noR_oN {n : Int32} {F : Nat → Option mO} (k : ∀ x, noR (F x)) : noR (oN n F) := fun t h => k _ t (oN_inv h).2
theorem noR_bif {b : Bool} {x w : Option mO} (k : noR x) (k2 : noR w) : noR (bif b then x else w) := by cases b; exact k2; exact k
theorem noR_I1 {f : Int32 → Value} {k : List Value → Option mO} {stk : List Value} (h : ∀ st, noR (k st)) : noR (mI1 f k stk) := fun t w => by obtain ⟨_, _, _, w⟩ := mI1_inv w; exact h _ t w
theorem noR_I2 {f : Int32 → Int32 → Option Int32} {k : List Value → Option mO} {stk : List Value} (h : ∀ st, noR (k st)) : noR (mI2 f k stk) := fun t w => by obtain ⟨_, _, _, _, _, _, w⟩ := mI2_inv w; exact h _ t w
theorem noR_L2 {f : Int64 → Int64 → Option Value} {k : List Value → Option mO} {stk : List Value} (h : ∀ st, noR (k st)) : noR (mL2 f k stk) := fun t w => by obtain ⟨_, _, _, _, _, _, w⟩ := mL2_inv w; exact h _ t w
set_option maxHeartbeats 4000000 in
theorem mnoret {sc : List Int32} {y : Nat} {ins : Instr} (h : mretop ins = false) {a b : Nat} {z : Int} {pc : Nat} {loc : mL} {stk : List Value} {hs : mH} {nc ns : Nat} : noR (mexec sc y ins a b z pc loc stk hs nc ns) := by
  cases ins <;> first
    | (exact Bool.noConfusion (show true = false from h))
    | (simp only [mexec]
       repeat' first
         | exact noR_go
         | exact noR_jp
         | exact noR_none
         | exact noR_call
         | (refine noR_oP (fun _ _ => ?_))
         | (refine noR_tI (fun _ _ => ?_))
         | (refine noR_tL (fun _ _ => ?_))
         | (refine noR_tR (fun _ _ => ?_))
         | (refine noR_tV (fun _ _ => ?_))
         | (refine noR_tE ?_)
         | (refine noR_lI (fun _ => ?_))
         | (refine noR_lL (fun _ => ?_))
         | (refine noR_lR (fun _ => ?_))
         | (refine noR_hO (fun _ _ => ?_))
         | (refine noR_hA (fun _ _ => ?_))
         | (refine noR_oB ?_)
         | (refine noR_oI (fun _ => ?_))
         | (refine noR_oV (fun _ => ?_))
         | (refine noR_oR (fun _ => ?_))
         | (refine noR_oN (fun _ => ?_))
         | (refine noR_bif ?_ ?_)
         | (refine noR_I1 (fun _ => ?_))
         | (refine noR_I2 (fun _ => ?_))
         | (refine noR_L2 (fun _ => ?_))
         | split)
theorem mret_inv {sc : List Int32} {y pc : Nat} {loc : mL} {stk : List Value} {hs : mH} {nc ns : Nat} {ins : Instr} {len a b : Nat} {z : Int} {v : Option Value} (hk : mchk y (pc, ins, len, a, b, z) = true) (hx : mexec sc y ins a b z pc loc stk hs nc ns = some (.inr (.inl v))) : len = 1 ∧ mretI y v ins ∧ stk = v.toList := by
  cases ins with
  | return_ =>
    obtain rfl := mlen1 (n := 1) hk
    obtain ⟨e0, hx1⟩ := tE_inv hx
    subst e0
    obtain ⟨g, hx2⟩ := oB_inv hx1
    cases hx2
    exact ⟨rfl, Or.inl ⟨rfl, rfl, of_decide_eq_true g⟩, rfl⟩
  | ireturn =>
    obtain rfl := mlen1 (n := 1) hk
    obtain ⟨x, st, e0, hx1⟩ := tI_inv hx
    subst e0
    obtain ⟨e0, hx2⟩ := tE_inv hx1
    subst e0
    split at hx2
    · next e => cases hx2; exact ⟨rfl, Or.inr (Or.inl ⟨x, rfl, rfl, Or.inl e⟩), rfl⟩
    · next e =>
      obtain ⟨g, hx3⟩ := oB_inv hx2
      cases hx3
      exact ⟨rfl, Or.inr (Or.inl ⟨x, rfl, rfl, Or.inr ⟨e, (mor g).imp of_decide_eq_true of_decide_eq_true⟩⟩), rfl⟩
    · cases hx2
  | lreturn =>
    obtain rfl := mlen1 (n := 1) hk
    obtain ⟨x, st, e0, hx1⟩ := tL_inv hx
    subst e0
    obtain ⟨e0, hx2⟩ := tE_inv hx1
    subst e0
    obtain ⟨g, hx3⟩ := oB_inv hx2
    cases hx3
    exact ⟨rfl, Or.inr (Or.inr (Or.inl ⟨x, rfl, rfl, of_decide_eq_true g⟩)), rfl⟩
  | areturn =>
    obtain rfl := mlen1 (n := 1) hk
    obtain ⟨x, st, e0, hx1⟩ := tR_inv hx
    subst e0
    obtain ⟨e0, hx2⟩ := tE_inv hx1
    subst e0
    split at hx2
    · next C e => cases hx2; exact ⟨rfl, Or.inr (Or.inr (Or.inr ⟨x, C, rfl, rfl, e⟩)), rfl⟩
    · cases hx2
  | _ => exact absurd hx (mnoret rfl _)
theorem mstep_inv {sc : List Int32} {y : Nat} {q : mS} {o : mO} (h : mstep sc y q = some o) : ∃ ins len a b z, decode (mbytes y) q.1 = .ok (ins, len) ∧ mchk y (q.1, ins, len, a, b, z) = true ∧ mexec sc y ins a b z q.1 q.2.1 q.2.2.1 q.2.2.2.1 q.2.2.2.2.1 q.2.2.2.2.2 = some o := by
  unfold mstep at h
  split at h
  · cases h
  · next i hi =>
    obtain ⟨h1, h2, h3⟩ := mfetch_inv hi
    obtain ⟨pc', ins, len, a, b, z⟩ := i
    cases h1
    exact ⟨ins, len, a, b, z, h2, h3, h⟩
theorem mmon_le {q q' : mS} (h : mmon q q' = true) : q.2.2.2.2.1 ≤ q'.2.2.2.2.1 ∧ q.2.2.2.2.2 ≤ q'.2.2.2.2.2 := ⟨Nat.le_of_ble_eq_true (mand h).1, Nat.le_of_ble_eq_true (mand h).2⟩
/-- what a run's next step is -/
theorem mrun_inv {sc : List Int32} {n d y : Nat} {q : mS} {x : Option Value × mH × Nat × Nat} (h : mrun sc (n + 1) d y q = some x) :
    (∃ q', mstep sc y q = some (.inl q') ∧ mmon q q' = true ∧ mrun sc n d y q' = some x) ∨ (∃ v, mstep sc y q = some (.inr (.inl v)) ∧ x = (v, q.2.2.2.1, q.2.2.2.2.1, q.2.2.2.2.2)) ∨
    ∃ y' as q' d' v hs' c' s', mstep sc y q = some (.inr (.inr (y', as, q'))) ∧ d = d' + 1 ∧ mrun sc n d' y' (mentry y' as q'.2.2.2.1) = some (v, hs', c', s') ∧ (mmon q q' = true ∧ (margs as).length ≤ mmaxL y') ∧ mrun sc n (d' + 1) y (q'.1, q'.2.1, v.toList ++ q'.2.2.1, hs', q'.2.2.2.2.1 + c', q'.2.2.2.2.2 + s') = some x := by
  rw [mrun] at h
  split at h
  · cases h
  · next q' e =>
    cases g : mmon q q' with
    | false => rw [g] at h; cases h
    | true => rw [g] at h; exact Or.inl ⟨q', e, g, h⟩
  · next v e => cases h; exact Or.inr (Or.inl ⟨v, e, rfl⟩)
  · next y' as q' e =>
    split at h
    · cases h
    · next d' =>
      split at h
      · cases h
      · next v hs' c' s' e2 =>
        cases g : mmon q q' && Nat.ble (margs as).length (mmaxL y') with
        | false => rw [g] at h; cases h
        | true => rw [g] at h; exact Or.inr (Or.inr ⟨y', as, q', d', v, hs', c', s', e, rfl, e2, ⟨(mand g).1, Nat.le_of_ble_eq_true (mand g).2⟩, h⟩)
theorem mrun_mono {sc : List Int32} : ∀ {n d y : Nat} {q : mS} {x : Option Value × mH × Nat × Nat}, mrun sc n d y q = some x → q.2.2.2.2.1 ≤ x.2.2.1 ∧ q.2.2.2.2.2 ≤ x.2.2.2
  | 0, _, _, _, _, h => by cases h
  | n + 1, d, y, q, x, h => by
    rcases mrun_inv h with ⟨q', -, h2, h3⟩ | ⟨v, -, rfl⟩ | ⟨y', as, q', d', v, hs', c', s', -, -, -, h4, h5⟩
    · have a1 := mmon_le h2
      have a2 := mrun_mono h3
      omega
    · exact ⟨Nat.le_refl _, Nat.le_refl _⟩
    · have a1 := mmon_le h4.1
      have a2 := mrun_mono h5
      dsimp only at a2
      omega
