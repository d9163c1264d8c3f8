/-! heaps of a fixed shape: all numbers in one function of place and index -/
abbrev sg : Type := Nat → Nat → Int32
abbrev sD : Type := (Nat × Nat) ⊕ (Nat × List (Option Nat))
def hv (σ : sg) (p i : Nat) (f : Option Nat) : Value := match f with
  | some r => .ref r
  | none => .int (σ p i)
def he (σ : sg) (p : Nat) (x : sD) : mE := match x with
  | .inl (k, n) => .inl (k, (List.range n).map (σ p))
  | .inr (c, fs) => .inr (c, fs.mapIdx (hv σ p))
def hp (sh : List sD) (σ : sg) : mH := sh.mapIdx (he σ)
def up (σ : sg) (p k : Nat) (v : Int32) : sg := fun p' k' => if p' = p ∧ k' = k then v else σ p' k'
def cpy (σ : sg) (s d n : Nat) : sg := fun p' k' => if p' = d ∧ k' < n then σ s k' else σ p' k'
theorem hp_get {sh : List sD} {σ : sg} {p : Nat} {x : sD} (h : sh[p]? = some x) : (hp sh σ)[p]? = some (he σ p x) := by
  rw [hp, List.getElem?_mapIdx, h]; rfl
theorem up_off {σ : sg} {p q k : Nat} {v : Int32} (h : q ≠ p) : up σ p k v q = σ q := by
  funext j; exact if_neg (fun w => h w.1)
theorem he_off {σ σ' : sg} {p : Nat} {x : sD} (h : σ' p = σ p) : he σ' p x = he σ p x := by
  obtain ⟨k, n⟩ | ⟨c, fs⟩ := x
  · show Sum.inl (k, (List.range n).map (σ' p)) = _
    rw [h]; rfl
  · show Sum.inr (c, fs.mapIdx (hv σ' p)) = Sum.inr (c, fs.mapIdx (hv σ p))
    have e : hv σ' p = hv σ p := by
      funext i f
      cases f with
      | some r => rfl
      | none => show Value.int (σ' p i) = Value.int (σ p i); rw [h]
    rw [e]
theorem hp_set {sh : List sD} {σ σ' : sg} {p : Nat} {x : sD} {e : mE} (h : sh[p]? = some x) (h1 : he σ' p x = e) (h2 : ∀ q, q ≠ p → σ' q = σ q) : (hp sh σ).set p e = hp sh σ' := by
  apply List.ext_getElem?
  intro i
  have hl : p < sh.length := (List.getElem?_eq_some_iff.mp h).1
  have hl2 : p < (hp sh σ).length := by rw [hp, List.length_mapIdx]; exact hl
  rw [List.getElem?_set]
  by_cases q : p = i
  · subst q
    rw [if_pos rfl, if_pos hl2, hp_get h, h1]
  · rw [if_neg q, hp, hp, List.getElem?_mapIdx, List.getElem?_mapIdx]
    cases sh[i]? with
    | none => rfl
    | some y => exact congrArg some (he_off (h2 i (fun w => q w.symm))).symm
theorem hp_setF {sh : List sD} {σ : sg} {p c b : Nat} {fs : List (Option Nat)} {v : Int32} (h : sh[p]? = some (.inr (c, fs))) (hb : fs[b]? = some none) : (hp sh σ).set p (.inr (c, (fs.mapIdx (hv σ p)).set b (.int v))) = hp sh (up σ p b v) := by
  refine hp_set h ?_ (fun q hq => up_off hq)
  show Sum.inr (c, fs.mapIdx (hv (up σ p b v) p)) = _
  congr 2
  apply List.ext_getElem?
  intro i
  have hl : b < fs.length := (List.getElem?_eq_some_iff.mp hb).1
  rw [List.getElem?_mapIdx, List.getElem?_set, List.getElem?_mapIdx]
  by_cases q : b = i
  · subst q
    rw [if_pos rfl, if_pos (by rw [List.length_mapIdx]; exact hl), hb]
    show some (Value.int (up σ p b v p b)) = some (Value.int v)
    rw [up, if_pos ⟨rfl, rfl⟩]
  · rw [if_neg q]
    cases fs[i]? with
    | none => rfl
    | some f =>
      cases f with
      | some r => rfl
      | none =>
        show some (Value.int (up σ p b v p i)) = some (Value.int (σ p i))
        rw [up, if_neg (fun w => q w.2.symm)]
theorem hp_setA {sh : List sD} {σ : sg} {p k n j : Nat} {v : Int32} (h : sh[p]? = some (.inl (k, n))) : (hp sh σ).set p (.inl (k, ((List.range n).map (σ p)).set j v)) = hp sh (up σ p j v) := by
  refine hp_set h ?_ (fun q hq => up_off hq)
  show Sum.inl (k, (List.range n).map (up σ p j v p)) = _
  congr 2
  apply List.ext_getElem?
  intro i
  rw [List.getElem?_set]
  by_cases q : j = i
  · subst q
    rw [if_pos rfl, List.getElem?_map, List.length_map, List.length_range]
    by_cases hj : j < n
    · rw [if_pos hj, List.getElem?_range hj]
      show some (up σ p j v p j) = some v
      rw [up, if_pos ⟨rfl, rfl⟩]
    · rw [if_neg hj, List.getElem?_eq_none (by rw [List.length_range]; omega)]; rfl
  · rw [if_neg q, List.getElem?_map, List.getElem?_map]
    by_cases hi : i < n
    · rw [List.getElem?_range hi]
      show some (up σ p j v p i) = some (σ p i)
      rw [up, if_neg (fun w => q w.2.symm)]
    · rw [List.getElem?_eq_none (by rw [List.length_range]; omega)]; rfl
theorem rg_get {f : Nat → Int32} {n i : Nat} : ((List.range n).map f)[i]? = if i < n then some (f i) else none := by
  rw [List.getElem?_map]
  by_cases hi : i < n
  · rw [List.getElem?_range hi, if_pos hi]; rfl
  · rw [List.getElem?_eq_none (by rw [List.length_range]; omega), if_neg hi]; rfl
theorem hp_setC {sh : List sD} {σ : sg} {s d n m : Nat} (h : sh[d]? = some (.inl (0, m))) {N : Nat} (hn : n ≤ N) (hm : n ≤ m) : (hp sh σ).set d (.inl (0, mcpy ((List.range N).map (σ s)) ((List.range m).map (σ d)) 0 0 n)) = hp sh (cpy σ s d n) := by
  refine hp_set h ?_ (fun q hq => by funext k; exact if_neg (fun w => hq w.1))
  show Sum.inl (0, (List.range m).map (cpy σ s d n d)) = _
  congr 2
  apply List.ext_getElem?
  intro i
  unfold mcpy
  rw [List.take_zero, List.nil_append, List.drop_zero, Nat.zero_add, List.getElem?_append, List.length_take, List.length_map, List.length_range, Nat.min_eq_left hn, rg_get, List.getElem?_take, rg_get, List.getElem?_drop, rg_get]
  by_cases h1 : i < n
  · rw [if_pos (by omega), if_pos h1, if_pos h1, if_pos (by omega)]
    show some (cpy σ s d n d i) = some (σ s i)
    rw [cpy, if_pos ⟨rfl, h1⟩]
  · rw [if_neg h1, Nat.add_sub_cancel' (by omega)]
    by_cases h2 : i < m
    · rw [if_pos h2, if_pos h2]
      show some (cpy σ s d n d i) = some (σ d i)
      rw [cpy, if_neg (fun w => h1 w.2)]
    · rw [if_neg h2, if_neg h2]
theorem rg_getD {f : Nat → Int32} {n j : Nat} (h : j < n) : ((List.range n).map f).getD j 0 = f j := by
  rw [List.getD_eq_getElem?_getD, rg_get, if_pos h]; rfl
theorem rg_len {f : Nat → Int32} {n : Nat} : ((List.range n).map f).length = n := by rw [List.length_map, List.length_range]
/-! locals that nobody reads may hold anything -/
def lLe (a b : mL) : Prop := a.length = b.length ∧ ∀ (i : Nat) (v : Value), a[i]? = some (some v) → b[i]? = some (some v)
theorem lLe.rf {a : mL} : lLe a a := ⟨rfl, fun _ _ h => h⟩
theorem lLe.ld {a b : mL} (h : lLe a b) {i : Nat} {v : Value} (hv : mld a i = some v) : mld b i = some v := mld_iff.mpr (h.2 i v (mld_iff.mp hv))
theorem mclr_s (l : mL) (j : Nat) : mclr l (j + 1) = (match l[j]? with
    | some (some v) => bif Nat.beq v.category 2 then l.set j none else l
    | _ => l) := rfl
theorem lLe.clr {a b : mL} (h : lLe a b) (i : Nat) : lLe (mclr a i) (mclr b i) := by
  have len : ∀ (l : mL) (j : Nat), (mclr l j).length = l.length := by
    intro l j
    cases j with
    | zero => rfl
    | succ j =>
      rw [mclr_s]
      split
      · next v e => cases Nat.beq v.category 2 <;> simp
      · rfl
  refine ⟨by rw [len, len]; exact h.1, fun j v hv => ?_⟩
  obtain ⟨h1, h2⟩ := mclr_get hv
  have h3 := h.2 j v h1
  cases i with
  | zero => exact h3
  | succ i =>
    rw [mclr_s]
    split
    · next w e =>
      cases q : Nat.beq w.category 2 with
      | false => exact h3
      | true =>
        show (b.set i none)[j]? = _
        rw [List.getElem?_set]
        by_cases e2 : i = j
        · subst e2
          rw [h3] at e
          cases e
          exact absurd ⟨rfl, beqN q⟩ h2
        · rw [if_neg e2]; exact h3
    · exact h3
theorem lLe.set {a b : mL} (h : lLe a b) (i : Nat) (v : Option Value) : lLe (a.set i v) (b.set i v) := by
  refine ⟨by rw [List.length_set, List.length_set]; exact h.1, fun j w hw => ?_⟩
  rw [List.getElem?_set] at hw ⊢
  by_cases e : i = j
  · subst e
    rw [if_pos rfl] at hw ⊢
    rw [← h.1]; exact hw
  · rw [if_neg e] at hw ⊢
    exact h.2 j w hw
theorem lLe.st1 {a b : mL} (h : lLe a b) (i : Nat) (v : Value) : lLe (mst1 a i v) (mst1 b i v) := (h.clr i).set i _
theorem lLe.st2 {a b : mL} (h : lLe a b) (i : Nat) (v : Value) : lLe (mst2 a i v) (mst2 b i v) := ((h.clr i).set i _).set _ _
def oLe (a b : Option mO) : Prop := match a with
  | none => True
  | some (.inl q) => ∃ l, lLe q.2.1 l ∧ b = some (.inl (q.1, l, q.2.2))
  | some (.inr (.inl v)) => b = some (.inr (.inl v))
  | some (.inr (.inr (y, as, q))) => ∃ l, lLe q.2.1 l ∧ b = some (.inr (.inr (y, as, (q.1, l, q.2.2))))
section EXT
variable {l l' : mL} {stk : List Value} {hs : mH} {pc nc ns : Nat}
theorem oLe_none {b : Option mO} : oLe none b := trivial
theorem oLe_go (h : lLe l l') : oLe (mgo pc l stk hs nc ns) (mgo pc l' stk hs nc ns) := ⟨l', h, rfl⟩
theorem oLe_jp {off : Int} (h : lLe l l') : oLe (mjp pc off l stk hs nc ns) (mjp pc off l' stk hs nc ns) := by
  unfold mjp
  split
  · exact oLe_go h
  · exact trivial
theorem oLe_ret {v : Option Value} : oLe (some (.inr (.inl v))) (some (.inr (.inl v))) := rfl
theorem oLe_call {y : Nat} {as : List Value} (h : lLe l l') : oLe (some (.inr (.inr (y, as, (pc, l, stk, hs, nc, ns))))) (some (.inr (.inr (y, as, (pc, l', stk, hs, nc, ns))))) := ⟨l', h, rfl⟩
theorem oLe_tI {F G : Int32 → List Value → Option mO} (k : ∀ x st, oLe (F x st) (G x st)) : oLe (tI stk F) (tI stk G) := by unfold tI; split; exact k _ _; exact trivial
theorem oLe_tL {F G : Int64 → List Value → Option mO} (k : ∀ x st, oLe (F x st) (G x st)) : oLe (tL stk F) (tL stk G) := by unfold tL; split; exact k _ _; exact trivial
theorem oLe_tR {F G : Nat → List Value → Option mO} (k : ∀ x st, oLe (F x st) (G x st)) : oLe (tR stk F) (tR stk G) := by unfold tR; split; exact k _ _; exact trivial
theorem oLe_tV {F G : Value → List Value → Option mO} (k : ∀ x st, oLe (F x st) (G x st)) : oLe (tV stk F) (tV stk G) := by unfold tV; split; exact k _ _; exact trivial
theorem oLe_tE {x z : Option mO} (k : oLe x z) : oLe (tE stk x) (tE stk z) := by unfold tE; split; exact k; exact trivial
theorem oLe_lI {i : Nat} {F G : Int32 → Option mO} (h : lLe l l') (k : ∀ x, oLe (F x) (G x)) : oLe (lI l i F) (lI l' i G) := by
  unfold lI
  split
  · next x e => rw [h.ld e]; exact k x
  · exact trivial
theorem oLe_lL {i : Nat} {F G : Int64 → Option mO} (h : lLe l l') (k : ∀ x, oLe (F x) (G x)) : oLe (lL l i F) (lL l' i G) := by
  unfold lL
  split
  · next x e => rw [h.ld e]; exact k x
  · exact trivial
theorem oLe_lR {i : Nat} {F G : Nat → Option mO} (h : lLe l l') (k : ∀ x, oLe (F x) (G x)) : oLe (lR l i F) (lR l' i G) := by
  unfold lR
  split
  · next x e => rw [h.ld e]; exact k x
  · exact trivial
theorem oLe_hO {r : Nat} {F G : Nat → List Value → Option mO} (k : ∀ x st, oLe (F x st) (G x st)) : oLe (hO hs r F) (hO hs r G) := by unfold hO; split; exact k _ _; exact trivial
theorem oLe_hA {r : Nat} {F G : Nat → List Int32 → Option mO} (k : ∀ x st, oLe (F x st) (G x st)) : oLe (hA hs r F) (hA hs r G) := by unfold hA; split; exact k _ _; exact trivial
theorem oLe_oB {b : Bool} {x z : Option mO} (k : oLe x z) : oLe (oB b x) (oB b z) := by cases b; exact trivial; exact k
theorem oLe_oI {i : Int32} {n : Nat} {F G : Nat → Option mO} (k : ∀ x, oLe (F x) (G x)) : oLe (oI i n F) (oI i n G) := by unfold oI; split; exact k _; exact trivial
theorem oLe_oV {vs : List Value} {n : Nat} {F G : Value → Option mO} (k : ∀ x, oLe (F x) (G x)) : oLe (oV vs n F) (oV vs n G) := by unfold oV; split; exact k _; exact trivial
theorem oLe_oR {vs : List Value} {n : Nat} {F G : Nat → Option mO} (k : ∀ x, oLe (F x) (G x)) : oLe (oR vs n F) (oR vs n G) := by unfold oR; split; exact k _; exact trivial
theorem oLe_oN {n : Int32} {F G : Nat → Option mO} (k : ∀ x, oLe (F x) (G x)) : oLe (oN n F) (oN n G) := by unfold oN; split; exact trivial; exact k _
theorem oLe_oP {n : Nat} {F G : List Value → List Value → Option mO} (k : ∀ x st, oLe (F x st) (G x st)) : oLe (oP n stk F) (oP n stk G) := by unfold oP; split; exact k _ _; exact trivial
theorem oLe_bif {b : Bool} {x w x' w' : Option mO} (k : oLe x x') (k2 : oLe w w') : oLe (bif b then x else w) (bif b then x' else w') := by cases b; exact k2; exact k
theorem oLe_I1 {f : Int32 → Value} {k k' : List Value → Option mO} (h : ∀ st, oLe (k st) (k' st)) : oLe (mI1 f k stk) (mI1 f k' stk) := by unfold mI1; split; exact h _; exact trivial
theorem oLe_I2 {f : Int32 → Int32 → Option Int32} {k k' : List Value → Option mO} (h : ∀ st, oLe (k st) (k' st)) : oLe (mI2 f k stk) (mI2 f k' stk) := by
  unfold mI2
  split
  · split
    · exact h _
    · exact trivial
  · exact trivial
theorem oLe_L2 {f : Int64 → Int64 → Option Value} {k k' : List Value → Option mO} (h : ∀ st, oLe (k st) (k' st)) : oLe (mL2 f k stk) (mL2 f k' stk) := by
  unfold mL2
  split
  · split
    · exact h _
    · exact trivial
  · exact trivial
set_option maxHeartbeats 4000000 in
theorem mexec_ext {sc : List Int32} {y : Nat} {ins : Instr} {a b : Nat} {z : Int} (h : lLe l l') : oLe (mexec sc y ins a b z pc l stk hs nc ns) (mexec sc y ins a b z pc l' stk hs nc ns) := by
  cases ins <;> (simp only [mexec]
                 repeat' first
                   | exact oLe_go h
                   | exact oLe_go (h.st1 _ _)
                   | exact oLe_go (h.st2 _ _)
                   | exact oLe_jp h
                   | exact oLe_none
                   | exact oLe_ret
                   | exact oLe_call h
                   | (refine oLe_oP (fun _ _ => ?_))
                   | (refine oLe_tI (fun _ _ => ?_))
                   | (refine oLe_tL (fun _ _ => ?_))
                   | (refine oLe_tR (fun _ _ => ?_))
                   | (refine oLe_tV (fun _ _ => ?_))
                   | (refine oLe_tE ?_)
                   | (refine oLe_lI h (fun _ => ?_))
                   | (refine oLe_lL h (fun _ => ?_))
                   | (refine oLe_lR h (fun _ => ?_))
                   | (refine oLe_hO (fun _ _ => ?_))
                   | (refine oLe_hA (fun _ _ => ?_))
                   | (refine oLe_oB ?_)
                   | (refine oLe_oI (fun _ => ?_))
                   | (refine oLe_oV (fun _ => ?_))
                   | (refine oLe_oR (fun _ => ?_))
                   | (refine oLe_oN (fun _ => ?_))
                   | (refine oLe_bif ?_ ?_)
                   | (refine oLe_I1 (fun _ => ?_))
                   | (refine oLe_I2 (fun _ => ?_))
                   | (refine oLe_L2 (fun _ => ?_))
                   | split)
end EXT
theorem mstep_ext {sc : List Int32} {y pc nc ns : Nat} {l l' : mL} {stk : List Value} {hs : mH} (h : lLe l l') : oLe (mstep sc y (pc, l, stk, hs, nc, ns)) (mstep sc y (pc, l', stk, hs, nc, ns)) := by
  unfold mstep
  show oLe (match mfetch y pc with | none => none | some i => _) (match mfetch y pc with | none => none | some i => _)
  cases mfetch y pc with
  | none => exact trivial
  | some i => exact mexec_ext h
theorem mrun_ext {sc : List Int32} : ∀ {n d y pc nc ns : Nat} {l l' : mL} {stk : List Value} {hs : mH} {x : Option Value × mH × Nat × Nat}, lLe l l' → mrun sc n d y (pc, l, stk, hs, nc, ns) = some x → mrun sc n d y (pc, l', stk, hs, nc, ns) = some x
  | 0, _, _, _, _, _, _, _, _, _, _, _, h => by cases h
  | n + 1, d, y, pc, nc, ns, l, l', stk, hs, x, hl, h => by
    have hs1 := mstep_ext (sc := sc) (y := y) (pc := pc) (nc := nc) (ns := ns) (stk := stk) (hs := hs) hl
    rcases mrun_inv h with ⟨q', h1, h2, h3⟩ | ⟨v, h1, rfl⟩ | ⟨y', as, q', d', v, hs', c', s', h1, rfl, h3, h4, h5⟩
    · rw [h1] at hs1
      obtain ⟨l2, g1, g2⟩ := hs1
      obtain ⟨pc2, l1, rest⟩ := q'
      rw [mrun, g2]
      have e : mmon (pc, l', stk, hs, nc, ns) (pc2, l2, rest) = true := h2
      simp only [e, cond_true]
      exact mrun_ext g1 h3
    · rw [h1] at hs1
      have hs1 : mstep sc y (pc, l', stk, hs, nc, ns) = some (.inr (.inl v)) := hs1
      rw [mrun, hs1]
    · rw [h1] at hs1
      obtain ⟨l2, g1, g2⟩ := hs1
      obtain ⟨pc2, l1, st2, hs2, nc2, ns2⟩ := q'
      rw [mrun, g2]
      simp only [h3]
      have e : (mmon (pc, l', stk, hs, nc, ns) (pc2, l2, st2, hs2, nc2, ns2) && Nat.ble (margs as).length (mmaxL y')) = true := by
        have e1 : mmon (pc, l', stk, hs, nc, ns) (pc2, l2, st2, hs2, nc2, ns2) = true := h4.1
        rw [e1, Nat.ble_eq_true_of_le h4.2]; rfl
      rw [e, cond_true]
      exact mrun_ext g1 h5
theorem mEnds.ext {sc : List Int32} {d y pc nc ns : Nat} {l l' : mL} {stk : List Value} {hs : mH} {x : Option Value × mH × Nat × Nat} (h : mEnds sc d y (pc, l, stk, hs, nc, ns) x) (hl : lLe l l') : mEnds sc d y (pc, l', stk, hs, nc, ns) x := by
  obtain ⟨n, hn⟩ := h
  exact ⟨n, mrun_ext hl hn⟩
/-- the same, slot by slot -/
def lle : mL → mL → Prop
  | [], [] => True
  | none :: a, _ :: b => lle a b
  | some v :: a, w :: b => w = some v ∧ lle a b
  | _, _ => False
theorem lle_ok : ∀ {a b : mL}, lle a b → lLe a b
  | [], [], _ => lLe.rf
  | [], _ :: _, h => h.elim
  | none :: _, [], h => h.elim
  | some _ :: _, [], h => h.elim
  | none :: a, w :: b, h => by
    have ih := lle_ok (a := a) (b := b) h
    refine ⟨congrArg (· + 1) ih.1, fun i v hv => ?_⟩
    cases i with
    | zero => simp at hv
    | succ i => exact ih.2 i v hv
  | some v :: a, w :: b, h => by
    have ih := lle_ok (a := a) (b := b) h.2
    refine ⟨congrArg (· + 1) ih.1, fun i u hu => ?_⟩
    cases i with
    | zero => rw [h.1]; exact hu
    | succ i => exact ih.2 i u hu
theorem mEnds.cut {sc : List Int32} {d y pc nc ns : Nat} {l l' : mL} {stk : List Value} {hs : mH} {x : Option Value × mH × Nat × Nat} (hl : lle l l') (h : mEnds sc d y (pc, l, stk, hs, nc, ns) x) : mEnds sc d y (pc, l', stk, hs, nc, ns) x := h.ext (lle_ok hl)
