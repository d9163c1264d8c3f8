/-- only a call calls -/
def mcallop (ins : Instr) : Bool := match ins with
  | .invokevirtual _ => true
  | .invokestatic _ => true
  | .invokespecial _ => true
  | _ => false
def noC (x : Option mO) : Prop := ∀ t, x ≠ some (.inr (.inr t))
theorem noC_none : noC none := fun _ h => by cases h
theorem noC_go {pc : Nat} {loc : mL} {stk : List Value} {hs : mH} {nc ns : Nat} : noC (mgo pc loc stk hs nc ns) := fun _ h => by cases h
theorem noC_jp {pc : Nat} {off : Int} {loc : mL} {stk : List Value} {hs : mH} {nc ns : Nat} : noC (mjp pc off loc stk hs nc ns) := fun t h => by
  unfold mjp at h
  split at h
  · exact noC_go t h
  · cases h
theorem noC_ret {v : Option Value} : noC (some (.inr (.inl v))) := fun _ h => by cases h
theorem noC_tI {stk : List Value} {F : Int32 → List Value → Option mO} (k : ∀ x st, noC (F x st)) : noC (tI stk F) := fun t h => by obtain ⟨x, st, -, h⟩ := tI_inv h; exact k x st t h
theorem noC_tL {stk : List Value} {F : Int64 → List Value → Option mO} (k : ∀ x st, noC (F x st)) : noC (tL stk F) := fun t h => by obtain ⟨x, st, -, h⟩ := tL_inv h; exact k x st t h
theorem noC_tR {stk : List Value} {F : Nat → List Value → Option mO} (k : ∀ x st, noC (F x st)) : noC (tR stk F) := fun t h => by obtain ⟨x, st, -, h⟩ := tR_inv h; exact k x st t h
theorem noC_tV {stk : List Value} {F : Value → List Value → Option mO} (k : ∀ x st, noC (F x st)) : noC (tV stk F) := fun t h => by obtain ⟨x, st, -, h⟩ := tV_inv h; exact k x st t h
theorem noC_tE {stk : List Value} {x : Option mO} (k : noC x) : noC (tE stk x) := fun t h => k t (tE_inv h).2
theorem noC_lI {loc : mL} {i : Nat} {F : Int32 → Option mO} (k : ∀ x, noC (F x)) : noC (lI loc i F) := fun t h => by obtain ⟨x, -, h⟩ := lI_inv h; exact k x t h
theorem noC_lL {loc : mL} {i : Nat} {F : Int64 → Option mO} (k : ∀ x, noC (F x)) : noC (lL loc i F) := fun t h => by obtain ⟨x, -, h⟩ := lL_inv h; exact k x t h
theorem noC_lR {loc : mL} {i : Nat} {F : Nat → Option mO} (k : ∀ x, noC (F x)) : noC (lR loc i F) := fun t h => by obtain ⟨x, -, h⟩ := lR_inv h; exact k x t h
theorem noC_hO {hs : mH} {r : Nat} {F : Nat → List Value → Option mO} (k : ∀ x st, noC (F x st)) : noC (hO hs r F) := fun t h => by obtain ⟨x, st, -, h⟩ := hO_inv h; exact k x st t h
theorem noC_hA {hs : mH} {r : Nat} {F : Nat → List Int32 → Option mO} (k : ∀ x st, noC (F x st)) : noC (hA hs r F) := fun t h => by obtain ⟨x, st, -, h⟩ := hA_inv h; exact k x st t h
theorem noC_oB {b : Bool} {x : Option mO} (k : noC x) : noC (oB b x) := fun t h => k t (oB_inv h).2
theorem noC_oI {i : Int32} {n : Nat} {F : Nat → Option mO} (k : ∀ x, noC (F x)) : noC (oI i n F) := fun t h => by obtain ⟨x, -, h⟩ := oI_inv h; exact k x t h
theorem noC_oV {vs : List Value} {n : Nat} {F : Value → Option mO} (k : ∀ x, noC (F x)) : noC (oV vs n F) := fun t h => by obtain ⟨x, -, h⟩ := oV_inv h; exact k x t h
theorem noC_oR {vs : List Value} {n : Nat} {F : Nat → Option mO} (k : ∀ x, noC (F x)) : noC (oR vs n F) := fun t h => by obtain ⟨x, -, h⟩ := oR_inv h; exact k x t h
theorem noC_oN {n : Int32} {F : Nat → Option mO} (k : ∀ x, noC (F x)) : noC (oN n F) := fun t h => k _ t (oN_inv h).2
theorem noC_bif {b : Bool} {x w : Option mO} (k : noC x) (k2 : noC w) : noC (bif b then x else w) := by cases b; exact k2; exact k
theorem noC_I1 {f : Int32 → Value} {k : List Value → Option mO} {stk : List Value} (h : ∀ st, noC (k st)) : noC (mI1 f k stk) := fun t w => by obtain ⟨_, _, _, w⟩ := mI1_inv w; exact h _ t w
theorem noC_I2 {f : Int32 → Int32 → Option Int32} {k : List Value → Option mO} {stk : List Value} (h : ∀ st, noC (k st)) : noC (mI2 f k stk) := fun t w => by obtain ⟨_, _, _, _, _, _, w⟩ := mI2_inv w; exact h _ t w
theorem noC_L2 {f : Int64 → Int64 → Option Value} {k : List Value → Option mO} {stk : List Value} (h : ∀ st, noC (k st)) : noC (mL2 f k stk) := fun t w => by obtain ⟨_, _, _, _, _, _, w⟩ := mL2_inv w; exact h _ t w
set_option maxHeartbeats 4000000 in
theorem mnocall {sc : List Int32} {y : Nat} {ins : Instr} (h : mcallop ins = false) {a b : Nat} {z : Int} {pc : Nat} {loc : mL} {stk : List Value} {hs : mH} {nc ns : Nat} : noC (mexec sc y ins a b z pc loc stk hs nc ns) := by
  cases ins <;> first
    | (exact Bool.noConfusion (show true = false from h))
    | (simp only [mexec]
       repeat' first
         | exact noC_go
         | exact noC_jp
         | exact noC_none
         | exact noC_ret
         | (refine noC_tI (fun _ _ => ?_))
         | (refine noC_tL (fun _ _ => ?_))
         | (refine noC_tR (fun _ _ => ?_))
         | (refine noC_tV (fun _ _ => ?_))
         | (refine noC_tE ?_)
         | (refine noC_lI (fun _ => ?_))
         | (refine noC_lL (fun _ => ?_))
         | (refine noC_lR (fun _ => ?_))
         | (refine noC_hO (fun _ _ => ?_))
         | (refine noC_hA (fun _ _ => ?_))
         | (refine noC_oB ?_)
         | (refine noC_oI (fun _ => ?_))
         | (refine noC_oV (fun _ => ?_))
         | (refine noC_oR (fun _ => ?_))
         | (refine noC_oN (fun _ => ?_))
         | (refine noC_bif ?_ ?_)
         | (refine noC_I1 (fun _ => ?_))
         | (refine noC_I2 (fun _ => ?_))
         | (refine noC_L2 (fun _ => ?_))
         | split)
section SND
variable {p : Program} {l : Launch} {e : Env} {R : Room} {s : State} {m : MethodId} {args : Array Value} {below : List Frame} {meth : Method} {c : Code} {H : Heap} {locs : List Loc} {nc ns : Nat} {Q : State → Prop}
variable {D : va_G} {tc : Nat → ClassId} {ad : Nat → Nat} {B : Nat} {H0 : Heap} {y pc : Nat} {hs : mH} {ls : Array Slot}
/-- what a call of the mini machine is -/
def mcallI (y pc : Nat) (loc : mL) (stk : List Value) (hs : mH) (nc ns : Nat) (ins : Instr) (len y' : Nat) (as : List Value) (q : mS) : Prop :=
  len = 3 ∧ y' < 184 ∧ ∃ idx as' rest, q = (pc + 3, loc, rest, hs, nc, ns) ∧ Nat.ble (mcat rest) 8 = true ∧ as'.length = marg y' ∧
    ((ins = .invokevirtual idx ∧ (mown y, idx, y') ∈ mlM ∧ mkd y' = 1 ∧ mown y' < 6 ∧ ∃ rr vs, as = .ref rr :: as' ∧ stk = as'.reverse ++ .ref rr :: rest ∧ hs[rr]? = some (.inr (mown y', vs))) ∨
     (ins = .invokestatic idx ∧ ((mown y, idx, y') ∈ mlM ∨ (mown y, idx, y') ∈ mlN) ∧ mkd y' = 0 ∧ as = as' ∧ stk = as'.reverse ++ rest) ∨
     (ins = .invokespecial idx ∧ ((mown y, idx, y') ∈ mlM ∨ (mown y, idx, y') ∈ mlN) ∧ mkd y' = 2 ∧ ∃ rr, as = .ref rr :: as' ∧ stk = as'.reverse ++ .ref rr :: rest))
theorem mcall_inv {sc : List Int32} {loc : mL} {stk : List Value} {ins : Instr} {len a b : Nat} {z : Int} {y' : Nat} {as : List Value} {q : mS} (hk : mchk y (pc, ins, len, a, b, z) = true) (hx : mexec sc y ins a b z pc loc stk hs nc ns = some (.inr (.inr (y', as, q)))) : mcallI y pc loc stk hs nc ns ins len y' as q := by
  cases ins with
  | invokevirtual i =>
    obtain rfl := mlen1 (n := 3) hk
    have hk := mlen2 hk
    have other : ∀ F : Option mO, F = some (.inr (.inr (y', as, q))) → F = (oP (marg a) stk fun as st => tR st fun r rest => hO hs r fun c _ => oB (Nat.beq c (mown a)) (oB (Nat.blt c 6) (oB (Nat.ble (mcat rest) 8) (some (.inr (.inr (a, .ref r :: as, (pc + 3, loc, rest, hs, nc, ns)))))))) → (mlM.any (meq3 (mown y, i, a)) && (Nat.beq (mkd a) 1 && Nat.blt a 184)) = true → mcallI y pc loc stk hs nc ns (.invokevirtual i) 3 y' as q := by
      intro F h1 h2 hk
      rw [h2] at h1
      obtain ⟨as', st', hp, hx1⟩ := oP_inv h1
      obtain ⟨rr, rest, e0, hx2⟩ := tR_inv hx1
      subst e0
      obtain ⟨c', vs, hr, hx3⟩ := hO_inv hx2
      obtain ⟨g1, hx4⟩ := oB_inv hx3
      obtain ⟨g2, hx5⟩ := oB_inv hx4
      obtain ⟨g3, hx6⟩ := oB_inv hx5
      cases hx6
      have g1 := beqN g1
      have g2 := lt_of_blt g2
      subst g1
      obtain ⟨h1, h⟩ := mand hk
      obtain ⟨h2, h3⟩ := mand h
      obtain ⟨p1, p2⟩ := mpop_inv hp
      exact ⟨rfl, lt_of_blt h3, i, as', rest, rfl, g3, p2, Or.inl ⟨rfl, many3 h1, beqN h2, g2, rr, vs, rfl, p1, hr⟩⟩
    match b, hk, hx with
    | 0, hk, hx => exact other _ hx rfl hk
    | 1, hk, _ => exact Bool.noConfusion (show false = true from hk)
    | 2, hk, _ => exact Bool.noConfusion (show false = true from hk)
    | 3, hk, _ => exact Bool.noConfusion (show false = true from hk)
    | 4, hk, _ => exact Bool.noConfusion (show false = true from hk)
    | 5, hk, _ => exact Bool.noConfusion (show false = true from hk)
    | 6, hk, _ => exact Bool.noConfusion (show false = true from hk)
    | 7, hk, _ => exact Bool.noConfusion (show false = true from hk)
    | 8, _, hx =>
      obtain ⟨r, st, e0, hx1⟩ := tR_inv hx
      obtain ⟨-, hx2⟩ := oB_inv hx1
      obtain ⟨-, hx3⟩ := oB_inv hx2
      obtain ⟨-, hx4⟩ := oB_inv hx3
      cases hx4
    | 9, _, hx =>
      obtain ⟨x, st, e0, hx0⟩ := tI_inv hx
      obtain ⟨r, st, e0, hx1⟩ := tR_inv hx0
      obtain ⟨-, hx2⟩ := oB_inv hx1
      obtain ⟨-, hx3⟩ := oB_inv hx2
      obtain ⟨-, hx4⟩ := oB_inv hx3
      obtain ⟨j, -, hx5⟩ := oI_inv hx4
      cases hx5
    | n + 10, hk, _ => exact Bool.noConfusion (show false = true from hk)
  | invokestatic i =>
    obtain rfl := mlen1 (n := 3) hk
    have hk := mlen2 hk
    have other : ∀ F : Option mO, F = some (.inr (.inr (y', as, q))) → F = (oP (marg a) stk fun as rest => oB (Nat.ble (mcat rest) 8) (some (.inr (.inr (a, as, (pc + 3, loc, rest, hs, nc, ns)))))) → ∃ rest, mpop (marg a) stk = some (as, rest) ∧ Nat.ble (mcat rest) 8 = true ∧ y' = a ∧ q = (pc + 3, loc, rest, hs, nc, ns) := by
      intro F h1 h2
      rw [h2] at h1
      obtain ⟨as', rest, hp, hx1⟩ := oP_inv h1
      obtain ⟨g3, hx2⟩ := oB_inv hx1
      cases hx2
      exact ⟨rest, hp, g3, rfl, rfl⟩
    match b, hk, hx with
    | 0, hk, hx =>
      obtain ⟨rest, hp, g3, rfl, rfl⟩ := other _ hx rfl
      have hk : (mlM.any (meq3 (mown y, i, y')) && (Nat.beq (mkd y') 0 && Nat.blt y' 184)) = true := hk
      obtain ⟨h1, h⟩ := mand hk
      obtain ⟨h2, h3⟩ := mand h
      obtain ⟨p1, p2⟩ := mpop_inv hp
      exact ⟨rfl, lt_of_blt h3, i, as, rest, rfl, g3, p2, Or.inr (Or.inl ⟨rfl, Or.inl (many3 h1), beqN h2, rfl, p1⟩)⟩
    | 1, hk, hx =>
      obtain ⟨rest, hp, g3, rfl, rfl⟩ := other _ hx rfl
      have hk : (mlN.any (meq3 (mown y, i, y')) && (Nat.beq (mkd y') 0 && Nat.blt y' 184)) = true := hk
      obtain ⟨h1, h⟩ := mand hk
      obtain ⟨h2, h3⟩ := mand h
      obtain ⟨p1, p2⟩ := mpop_inv hp
      exact ⟨rfl, lt_of_blt h3, i, as, rest, rfl, g3, p2, Or.inr (Or.inl ⟨rfl, Or.inr (many3 h1), beqN h2, rfl, p1⟩)⟩
    | 2, hk, _ => exact Bool.noConfusion (show false = true from hk)
    | 3, hk, _ => exact Bool.noConfusion (show false = true from hk)
    | 4, _, hx =>
      obtain ⟨_, _, _, hx1⟩ := tI_inv hx
      obtain ⟨_, _, _, hx2⟩ := tI_inv hx1
      obtain ⟨_, _, _, hx3⟩ := tR_inv hx2
      obtain ⟨_, hx4⟩ := oB_inv hx3
      obtain ⟨_, _, _, hx5⟩ := tI_inv hx4
      obtain ⟨_, _, _, hx5b⟩ := tR_inv hx5
      obtain ⟨_, hx6⟩ := oB_inv hx5b
      obtain ⟨_, _, _, hx7⟩ := hA_inv hx6
      obtain ⟨_, _, _, hx8⟩ := hA_inv hx7
      obtain ⟨_, hx9⟩ := oB_inv hx8
      obtain ⟨_, hx10⟩ := oB_inv hx9
      obtain ⟨_, hx11⟩ := oN_inv hx10
      obtain ⟨_, hx12⟩ := oN_inv hx11
      obtain ⟨_, hx13⟩ := oN_inv hx12
      obtain ⟨_, hx14⟩ := oB_inv hx13
      obtain ⟨_, hx15⟩ := oB_inv hx14
      obtain ⟨_, hx16⟩ := oB_inv hx15
      cases hx16
    | 5, _, hx =>
      obtain ⟨_, _, _, hx1⟩ := tI_inv hx
      obtain ⟨_, _, _, hx2⟩ := tI_inv hx1
      obtain ⟨_, hx3⟩ := oB_inv hx2
      cases hx3
    | 6, _, hx =>
      obtain ⟨_, _, _, hx1⟩ := tI_inv hx
      obtain ⟨_, _, _, hx2⟩ := tI_inv hx1
      obtain ⟨_, hx3⟩ := oB_inv hx2
      cases hx3
    | 7, _, hx =>
      obtain ⟨_, _, _, hx1⟩ := tL_inv hx
      obtain ⟨_, _, _, hx2⟩ := tL_inv hx1
      obtain ⟨_, hx3⟩ := oB_inv hx2
      cases hx3
    | n + 8, hk, _ => exact Bool.noConfusion (show false = true from hk)
  | invokespecial i =>
    obtain rfl := mlen1 (n := 3) hk
    have hk := mlen2 hk
    have other : ∀ F : Option mO, F = some (.inr (.inr (y', as, q))) → F = (oP (marg a) stk fun as st => tR st fun r rest => oB (Nat.ble (mcat rest) 8) (some (.inr (.inr (a, .ref r :: as, (pc + 3, loc, rest, hs, nc, ns)))))) → ∃ as' rr rest, mpop (marg a) stk = some (as', .ref rr :: rest) ∧ Nat.ble (mcat rest) 8 = true ∧ y' = a ∧ as = .ref rr :: as' ∧ q = (pc + 3, loc, rest, hs, nc, ns) := by
      intro F h1 h2
      rw [h2] at h1
      obtain ⟨as', st', hp, hx1⟩ := oP_inv h1
      obtain ⟨rr, rest, e0, hx2⟩ := tR_inv hx1
      subst e0
      obtain ⟨g3, hx3⟩ := oB_inv hx2
      cases hx3
      exact ⟨as', rr, rest, hp, g3, rfl, rfl, rfl⟩
    match b, hk, hx with
    | 0, hk, hx =>
      obtain ⟨as', rr, rest, hp, g3, rfl, rfl, rfl⟩ := other _ hx rfl
      have hk : (mlM.any (meq3 (mown y, i, y')) && (Nat.beq (mkd y') 2 && Nat.blt y' 184)) = true := hk
      obtain ⟨h1, h⟩ := mand hk
      obtain ⟨h2, h3⟩ := mand h
      obtain ⟨p1, p2⟩ := mpop_inv hp
      exact ⟨rfl, lt_of_blt h3, i, as', rest, rfl, g3, p2, Or.inr (Or.inr ⟨rfl, Or.inl (many3 h1), beqN h2, rr, rfl, p1⟩)⟩
    | 1, hk, hx =>
      obtain ⟨as', rr, rest, hp, g3, rfl, rfl, rfl⟩ := other _ hx rfl
      have hk : (mlN.any (meq3 (mown y, i, y')) && (Nat.beq (mkd y') 2 && Nat.blt y' 184)) = true := hk
      obtain ⟨h1, h⟩ := mand hk
      obtain ⟨h2, h3⟩ := mand h
      obtain ⟨p1, p2⟩ := mpop_inv hp
      exact ⟨rfl, lt_of_blt h3, i, as', rest, rfl, g3, p2, Or.inr (Or.inr ⟨rfl, Or.inr (many3 h1), beqN h2, rr, rfl, p1⟩)⟩
    | 2, _, hx =>
      obtain ⟨_, _, _, hx1⟩ := tR_inv hx
      obtain ⟨_, hx2⟩ := oB_inv hx1
      cases hx2
    | n + 3, hk, _ => exact Bool.noConfusion (show false = true from hk)
  | _ => exact absurd hx (mnocall rfl _)
end SND
