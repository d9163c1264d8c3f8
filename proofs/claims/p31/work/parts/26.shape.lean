section Q26
/-! heaps of a fixed shape: all numbers in one function of place and index -/
abbrev sg : Type := Nat → Nat → Int32
abbrev sD : Type := (Nat × Nat) ⊕ (Nat × List (Option Nat))
def hv (σ : sg) (p i : Nat) (f : Option Nat) : Value := match f with
  | some r => .ref r
  | none => .int (σ p i)
def he (σ : sg) (p : Nat) (x : sD) : mE := match x with
  | .inl (k, n) => .inl (k, (List.range n).map (σ p))
  | .inr (c, fs) => .inr (c, fs.mapIdx (hv σ p))
def hp (sh : List sD) (σ : sg) : mH := sh.mapIdx (he σ)
def up (σ : sg) (p k : Nat) (v : Int32) : sg := fun p' k' => if p' = p ∧ k' = k then v else σ p' k'
def cpy (σ : sg) (s d n : Nat) : sg := fun p' k' => if p' = d ∧ k' < n then σ s k' else σ p' k'
theorem hp_get {sh : List sD} {σ : sg} {p : Nat} {x : sD} (h : sh[p]? = some x) : (hp sh σ)[p]? = some (he σ p x) := by
  rw [hp, List.getElem?_mapIdx, h]; rfl
theorem up_off {σ : sg} {p q k : Nat} {v : Int32} (h : q ≠ p) : up σ p k v q = σ q := by
  funext j; exact if_neg (fun w => h w.1)
theorem he_off {σ σ' : sg} {p : Nat} {x : sD} (h : σ' p = σ p) : he σ' p x = he σ p x := by
  obtain ⟨k, n⟩ | ⟨c, fs⟩ := x
  · show Sum.inl (k, (List.range n).map (σ' p)) = _
    rw [h]; rfl
  · show Sum.inr (c, fs.mapIdx (hv σ' p)) = Sum.inr (c, fs.mapIdx (hv σ p))
    have e : hv σ' p = hv σ p := by
      funext i f
      cases f with
      | some r => rfl
      | none => show Value.int (σ' p i) = Value.int (σ p i); rw [h]
    rw [e]
theorem hp_set {sh : List sD} {σ σ' : sg} {p : Nat} {x : sD} {e : mE} (h : sh[p]? = some x) (h1 : he σ' p x = e) (h2 : ∀ q, q ≠ p → σ' q = σ q) : (hp sh σ).set p e = hp sh σ' := by
  apply List.ext_getElem?
  intro i
  have hl : p < sh.length := (List.getElem?_eq_some_iff.mp h).1
  have hl2 : p < (hp sh σ).length := by rw [hp, List.length_mapIdx]; exact hl
  rw [List.getElem?_set]
  by_cases q : p = i
  · subst q
    rw [if_pos rfl, if_pos hl2, hp_get h, h1]
  · rw [if_neg q, hp, hp, List.getElem?_mapIdx, List.getElem?_mapIdx]
    cases sh[i]? with
    | none => rfl
    | some y => exact congrArg some (he_off (h2 i (fun w => q w.symm))).symm
theorem hp_setF {sh : List sD} {σ : sg} {p c b : Nat} {fs : List (Option Nat)} {v : Int32} (h : sh[p]? = some (.inr (c, fs))) (hb : fs[b]? = some none) : (hp sh σ).set p (.inr (c, (fs.mapIdx (hv σ p)).set b (.int v))) = hp sh (up σ p b v) := by
  refine hp_set h ?_ (fun q hq => up_off hq)
  show Sum.inr (c, fs.mapIdx (hv (up σ p b v) p)) = _
  congr 2
  apply List.ext_getElem?
  intro i
  have hl : b < fs.length := (List.getElem?_eq_some_iff.mp hb).1
  rw [List.getElem?_mapIdx, List.getElem?_set, List.getElem?_mapIdx]
  by_cases q : b = i
  · subst q
    rw [if_pos rfl, if_pos (by rw [List.length_mapIdx]; exact hl), hb]
    show some (Value.int (up σ p b v p b)) = some (Value.int v)
    rw [up, if_pos ⟨rfl, rfl⟩]
  · rw [if_neg q]
    cases fs[i]? with
    | none => rfl
    | some f =>
      cases f with
      | some r => rfl
      | none =>
        show some (Value.int (up σ p b v p i)) = some (Value.int (σ p i))
        rw [up, if_neg (fun w => q w.2.symm)]
theorem hp_setA {sh : List sD} {σ : sg} {p k n j : Nat} {v : Int32} (h : sh[p]? = some (.inl (k, n))) : (hp sh σ).set p (.inl (k, ((List.range n).map (σ p)).set j v)) = hp sh (up σ p j v) := by
  refine hp_set h ?_ (fun q hq => up_off hq)
  show Sum.inl (k, (List.range n).map (up σ p j v p)) = _
  congr 2
  apply List.ext_getElem?
  intro i
  rw [List.getElem?_set]
  by_cases q : j = i
  · subst q
    rw [if_pos rfl, List.getElem?_map, List.length_map, List.length_range]
    by_cases hj : j < n
    · rw [if_pos hj, List.getElem?_range hj]
      show some (up σ p j v p j) = some v
      rw [up, if_pos ⟨rfl, rfl⟩]
    · rw [if_neg hj, List.getElem?_eq_none (by rw [List.length_range]; omega)]; rfl
  · rw [if_neg q, List.getElem?_map, List.getElem?_map]
    by_cases hi : i < n
    · rw [List.getElem?_range hi]
      show some (up σ p j v p i) = some (σ p i)
      rw [up, if_neg (fun w => q w.2.symm)]
    · rw [List.getElem?_eq_none (by rw [List.length_range]; omega)]; rfl
theorem rg_get {f : Nat → Int32} {n i : Nat} : ((List.range n).map f)[i]? = if i < n then some (f i) else none := by
  rw [List.getElem?_map]
  by_cases hi : i < n
  · rw [List.getElem?_range hi, if_pos hi]; rfl
  · rw [List.getElem?_eq_none (by rw [List.length_range]; omega), if_neg hi]; rfl
theorem hp_setC {sh : List sD} {σ : sg} {s d n m : Nat} (h : sh[d]? = some (.inl (0, m))) {N : Nat} (hn : n ≤ N) (hm : n ≤ m) : (hp sh σ).set d (.inl (0, mcpy ((List.range N).map (σ s)) ((List.range m).map (σ d)) 0 0 n)) = hp sh (cpy σ s d n) := by
  refine hp_set h ?_ (fun q hq => by funext k; exact if_neg (fun w => hq w.1))
  show Sum.inl (0, (List.range m).map (cpy σ s d n d)) = _
  congr 2
  apply List.ext_getElem?
  intro i
  unfold mcpy
  rw [List.take_zero, List.nil_append, List.drop_zero, Nat.zero_add, List.getElem?_append, List.length_take, List.length_map, List.length_range, Nat.min_eq_left hn, rg_get, List.getElem?_take, rg_get, List.getElem?_drop, rg_get]
  by_cases h1 : i < n
  · rw [if_pos (by omega), if_pos h1, if_pos h1, if_pos (by omega)]
    show some (cpy σ s d n d i) = some (σ s i)
    rw [cpy, if_pos ⟨rfl, h1⟩]
  · rw [if_neg h1, Nat.add_sub_cancel' (by omega)]
    by_cases h2 : i < m
    · rw [if_pos h2, if_pos h2]
      show some (cpy σ s d n d i) = some (σ d i)
      rw [cpy, if_neg (fun w => h1 w.2)]
    · rw [if_neg h2, if_neg h2]
theorem rg_getD {f : Nat → Int32} {n j : Nat} (h : j < n) : ((List.range n).map f).getD j 0 = f j := by
  rw [List.getD_eq_getElem?_getD, rg_get, if_pos h]; rfl
theorem rg_len {f : Nat → Int32} {n : Nat} : ((List.range n).map f).length = n := by rw [List.length_map, List.length_range]
/-! locals that nobody reads may hold anything -/
def lLe (a b : mL) : Prop := a.length = b.length ∧ ∀ (i : Nat) (v : Value), a[i]? = some (some v) → b[i]? = some (some v)
theorem lLe.rf {a : mL} : lLe a a := ⟨rfl, fun _ _ h => h⟩
theorem lLe.ld {a b : mL} (h : lLe a b) {i : Nat} {v : Value} (hv : mld a i = some v) : mld b i = some v := mld_iff.mpr (h.2 i v (mld_iff.mp hv))
theorem mclr_s (l : mL) (j : Nat) : mclr l (j + 1) = (match l[j]? with
    | some (some v) => bif Nat.beq v.category 2 then l.set j none else l
    | _ => l) := rfl
theorem lLe.clr {a b : mL} (h : lLe a b) (i : Nat) : lLe (mclr a i) (mclr b i) := by
  have len : ∀ (l : mL) (j : Nat), (mclr l j).length = l.length := by
    intro l j
    cases j with
    | zero => rfl
    | succ j =>
      rw [mclr_s]
      split
      · next v e => cases Nat.beq v.category 2 <;> simp
      · rfl
  refine ⟨by rw [len, len]; exact h.1, fun j v hv => ?_⟩
  obtain ⟨h1, h2⟩ := mclr_get hv
  have h3 := h.2 j v h1
  cases i with
  | zero => exact h3
  | succ i =>
    rw [mclr_s]
    split
    · next w e =>
      cases q : Nat.beq w.category 2 with
      | false => exact h3
      | true =>
        show (b.set i none)[j]? = _
        rw [List.getElem?_set]
        by_cases e2 : i = j
        · subst e2
          rw [h3] at e
          cases e
          exact absurd ⟨rfl, beqN q⟩ h2
        · rw [if_neg e2]; exact h3
    · exact h3
theorem lLe.set {a b : mL} (h : lLe a b) (i : Nat) (v : Option Value) : lLe (a.set i v) (b.set i v) := by
  refine ⟨by rw [List.length_set, List.length_set]; exact h.1, fun j w hw => ?_⟩
  rw [List.getElem?_set] at hw ⊢
  by_cases e : i = j
  · subst e
    rw [if_pos rfl] at hw ⊢
    rw [← h.1]; exact hw
  · rw [if_neg e] at hw ⊢
    exact h.2 j w hw
theorem lLe.st1 {a b : mL} (h : lLe a b) (i : Nat) (v : Value) : lLe (mst1 a i v) (mst1 b i v) := (h.clr i).set i _
theorem lLe.st2 {a b : mL} (h : lLe a b) (i : Nat) (v : Value) : lLe (mst2 a i v) (mst2 b i v) := ((h.clr i).set i _).set _ _
def oLe (a b : Option mO) : Prop := match a with
  | none => True
  | some (.inl q) => ∃ l, lLe q.2.1 l ∧ b = some (.inl (q.1, l, q.2.2))
  | some (.inr (.inl v)) => b = some (.inr (.inl v))
  | some (.inr (.inr (y, as, q))) => ∃ l, lLe q.2.1 l ∧ b = some (.inr (.inr (y, as, (q.1, l, q.2.2))))
section EXT
variable {l l' : mL} {stk : List Value} {hs : mH} {pc nc ns : Nat}
theorem oLe_none {b : Option mO} : oLe none b := trivial
theorem oLe_go (h : lLe l l') : oLe (mgo pc l stk hs nc ns) (mgo pc l' stk hs nc ns) := ⟨l', h, rfl⟩
theorem oLe_jp {off : Int} (h : lLe l l') : oLe (mjp pc off l stk hs nc ns) (mjp pc off l' stk hs nc ns) := by
  unfold mjp
  split
  · exact oLe_go h
  · exact trivial
theorem oLe_ret {v : Option Value} : oLe (some (.inr (.inl v))) (some (.inr (.inl v))) := rfl
theorem oLe_call {y : Nat} {as : List Value} (h : lLe l l') : oLe (some (.inr (.inr (y, as, (pc, l, stk, hs, nc, ns))))) (some (.inr (.inr (y, as, (pc, l', stk, hs, nc, ns))))) := ⟨l', h, rfl⟩
theorem oLe_tI {F G : Int32 → List Value → Option mO} (k : ∀ x st, oLe (F x st) (G x st)) : oLe (tI stk F) (tI stk G) := by unfold tI; split; exact k _ _; exact trivial
theorem oLe_tL {F G : Int64 → List Value → Option mO} (k : ∀ x st, oLe (F x st) (G x st)) : oLe (tL stk F) (tL stk G) := by unfold tL; split; exact k _ _; exact trivial
theorem oLe_tR {F G : Nat → List Value → Option mO} (k : ∀ x st, oLe (F x st) (G x st)) : oLe (tR stk F) (tR stk G) := by unfold tR; split; exact k _ _; exact trivial
theorem oLe_tV {F G : Value → List Value → Option mO} (k : ∀ x st, oLe (F x st) (G x st)) : oLe (tV stk F) (tV stk G) := by unfold tV; split; exact k _ _; exact trivial
theorem oLe_tE {x z : Option mO} (k : oLe x z) : oLe (tE stk x) (tE stk z) := by unfold tE; split; exact k; exact trivial
theorem oLe_lI {i : Nat} {F G : Int32 → Option mO} (h : lLe l l') (k : ∀ x, oLe (F x) (G x)) : oLe (lI l i F) (lI l' i G) := by
  unfold lI
  split
  · next x e => rw [h.ld e]; exact k x
  · exact trivial
theorem oLe_lL {i : Nat} {F G : Int64 → Option mO} (h : lLe l l') (k : ∀ x, oLe (F x) (G x)) : oLe (lL l i F) (lL l' i G) := by
  unfold lL
  split
  · next x e => rw [h.ld e]; exact k x
  · exact trivial
theorem oLe_lR {i : Nat} {F G : Nat → Option mO} (h : lLe l l') (k : ∀ x, oLe (F x) (G x)) : oLe (lR l i F) (lR l' i G) := by
  unfold lR
  split
  · next x e => rw [h.ld e]; exact k x
  · exact trivial
theorem oLe_hO {r : Nat} {F G : Nat → List Value → Option mO} (k : ∀ x st, oLe (F x st) (G x st)) : oLe (hO hs r F) (hO hs r G) := by unfold hO; split; exact k _ _; exact trivial
theorem oLe_hA {r : Nat} {F G : Nat → List Int32 → Option mO} (k : ∀ x st, oLe (F x st) (G x st)) : oLe (hA hs r F) (hA hs r G) := by unfold hA; split; exact k _ _; exact trivial
theorem oLe_oB {b : Bool} {x z : Option mO} (k : oLe x z) : oLe (oB b x) (oB b z) := by cases b; exact trivial; exact k
theorem oLe_oI {i : Int32} {n : Nat} {F G : Nat → Option mO} (k : ∀ x, oLe (F x) (G x)) : oLe (oI i n F) (oI i n G) := by unfold oI; split; exact k _; exact trivial
theorem oLe_oV {vs : List Value} {n : Nat} {F G : Value → Option mO} (k : ∀ x, oLe (F x) (G x)) : oLe (oV vs n F) (oV vs n G) := by unfold oV; split; exact k _; exact trivial
theorem oLe_oR {vs : List Value} {n : Nat} {F G : Nat → Option mO} (k : ∀ x, oLe (F x) (G x)) : oLe (oR vs n F) (oR vs n G) := by unfold oR; split; exact k _; exact trivial
theorem oLe_oN {n : Int32} {F G : Nat → Option mO} (k : ∀ x, oLe (F x) (G x)) : oLe (oN n F) (oN n G) := by unfold oN; split; exact trivial; exact k _
theorem oLe_oP {n : Nat} {F G : List Value → List Value → Option mO} (k : ∀ x st, oLe (F x st) (G x st)) : oLe (oP n stk F) (oP n stk G) := by unfold oP; split; exact k _ _; exact trivial
theorem oLe_bif {b : Bool} {x w x' w' : Option mO} (k : oLe x x') (k2 : oLe w w') : oLe (bif b then x else w) (bif b then x' else w') := by cases b; exact k2; exact k
theorem oLe_I1 {f : Int32 → Value} {k k' : List Value → Option mO} (h : ∀ st, oLe (k st) (k' st)) : oLe (mI1 f k stk) (mI1 f k' stk) := by unfold mI1; split; exact h _; exact trivial
theorem oLe_I2 {f : Int32 → Int32 → Option Int32} {k k' : List Value → Option mO} (h : ∀ st, oLe (k st) (k' st)) : oLe (mI2 f k stk) (mI2 f k' stk) := by
  unfold mI2
  split
  · split
    · exact h _
    · exact trivial
  · exact trivial
theorem oLe_L2 {f : Int64 → Int64 → Option Value} {k k' : List Value → Option mO} (h : ∀ st, oLe (k st) (k' st)) : oLe (mL2 f k stk) (mL2 f k' stk) := by
  unfold mL2
  split
  · split
    · exact h _
    · exact trivial
  · exact trivial
set_option maxHeartbeats 4000000 in
theorem mexec_ext {sc : List Int32} {y : Nat} {ins : Instr} {a b : Nat} {z : Int} (h : lLe l l') : oLe (mexec sc y ins a b z pc l stk hs nc ns) (mexec sc y ins a b z pc l' stk hs nc ns) := by
  cases ins <;> (simp only [mexec]
                 repeat' first
                   | exact oLe_go h
                   | exact oLe_go (h.st1 _ _)
                   | exact oLe_go (h.st2 _ _)
                   | exact oLe_jp h
                   | exact oLe_none
                   | exact oLe_ret
                   | exact oLe_call h
                   | (refine oLe_oP (fun _ _ => ?_))
                   | (refine oLe_tI (fun _ _ => ?_))
                   | (refine oLe_tL (fun _ _ => ?_))
                   | (refine oLe_tR (fun _ _ => ?_))
                   | (refine oLe_tV (fun _ _ => ?_))
                   | (refine oLe_tE ?_)
                   | (refine oLe_lI h (fun _ => ?_))
                   | (refine oLe_lL h (fun _ => ?_))
                   | (refine oLe_lR h (fun _ => ?_))
                   | (refine oLe_hO (fun _ _ => ?_))
                   | (refine oLe_hA (fun _ _ => ?_))
                   | (refine oLe_oB ?_)
                   | (refine oLe_oI (fun _ => ?_))
                   | (refine oLe_oV (fun _ => ?_))
                   | (refine oLe_oR (fun _ => ?_))
                   | (refine oLe_oN (fun _ => ?_))
                   | (refine oLe_bif ?_ ?_)
                   | (refine oLe_I1 (fun _ => ?_))
                   | (refine oLe_I2 (fun _ => ?_))
                   | (refine oLe_L2 (fun _ => ?_))
                   | split)
end EXT
theorem mstep_ext {sc : List Int32} {y pc nc ns : Nat} {l l' : mL} {stk : List Value} {hs : mH} (h : lLe l l') : oLe (mstep sc y (pc, l, stk, hs, nc, ns)) (mstep sc y (pc, l', stk, hs, nc, ns)) := by
  unfold mstep
  show oLe (match mfetch y pc with | none => none | some i => _) (match mfetch y pc with | none => none | some i => _)
  cases mfetch y pc with
  | none => exact trivial
  | some i => exact mexec_ext h
theorem mrun_ext {sc : List Int32} : ∀ {n d y pc nc ns : Nat} {l l' : mL} {stk : List Value} {hs : mH} {x : Option Value × mH × Nat × Nat}, lLe l l' → mrun sc n d y (pc, l, stk, hs, nc, ns) = some x → mrun sc n d y (pc, l', stk, hs, nc, ns) = some x
  | 0, _, _, _, _, _, _, _, _, _, _, _, h => by cases h
  | n + 1, d, y, pc, nc, ns, l, l', stk, hs, x, hl, h => by
    have hs1 := mstep_ext (sc := sc) (y := y) (pc := pc) (nc := nc) (ns := ns) (stk := stk) (hs := hs) hl
    rcases mrun_inv h with ⟨q', h1, h2, h3⟩ | ⟨v, h1, rfl⟩ | ⟨y', as, q', d', v, hs', c', s', h1, rfl, h3, h4, h5⟩
    · rw [h1] at hs1
      obtain ⟨l2, g1, g2⟩ := hs1
      obtain ⟨pc2, l1, rest⟩ := q'
      rw [mrun, g2]
      have e : mmon (pc, l', stk, hs, nc, ns) (pc2, l2, rest) = true := h2
      simp only [e, cond_true]
      exact mrun_ext g1 h3
    · rw [h1] at hs1
      have hs1 : mstep sc y (pc, l', stk, hs, nc, ns) = some (.inr (.inl v)) := hs1
      rw [mrun, hs1]
    · rw [h1] at hs1
      obtain ⟨l2, g1, g2⟩ := hs1
      obtain ⟨pc2, l1, st2, hs2, nc2, ns2⟩ := q'
      rw [mrun, g2]
      simp only [h3]
      have e : (mmon (pc, l', stk, hs, nc, ns) (pc2, l2, st2, hs2, nc2, ns2) && Nat.ble (margs as).length (mmaxL y')) = true := by
        have e1 : mmon (pc, l', stk, hs, nc, ns) (pc2, l2, st2, hs2, nc2, ns2) = true := h4.1
        rw [e1, Nat.ble_eq_true_of_le h4.2]; rfl
      rw [e, cond_true]
      exact mrun_ext g1 h5
theorem mEnds.ext {sc : List Int32} {d y pc nc ns : Nat} {l l' : mL} {stk : List Value} {hs : mH} {x : Option Value × mH × Nat × Nat} (h : mEnds sc d y (pc, l, stk, hs, nc, ns) x) (hl : lLe l l') : mEnds sc d y (pc, l', stk, hs, nc, ns) x := by
  obtain ⟨n, hn⟩ := h
  exact ⟨n, mrun_ext hl hn⟩
/-- the same, slot by slot -/
def lle : mL → mL → Prop
  | [], [] => True
  | none :: a, _ :: b => lle a b
  | some v :: a, w :: b => w = some v ∧ lle a b
  | _, _ => False
theorem lle_ok : ∀ {a b : mL}, lle a b → lLe a b
  | [], [], _ => lLe.rf
  | [], _ :: _, h => h.elim
  | none :: _, [], h => h.elim
  | some _ :: _, [], h => h.elim
  | none :: a, w :: b, h => by
    have ih := lle_ok (a := a) (b := b) h
    refine ⟨congrArg (· + 1) ih.1, fun i v hv => ?_⟩
    cases i with
    | zero => simp at hv
    | succ i => exact ih.2 i v hv
  | some v :: a, w :: b, h => by
    have ih := lle_ok (a := a) (b := b) h.2
    refine ⟨congrArg (· + 1) ih.1, fun i u hu => ?_⟩
    cases i with
    | zero => rw [h.1]; exact hu
    | succ i => exact ih.2 i u hu
theorem mEnds.cut {sc : List Int32} {d y pc nc ns : Nat} {l l' : mL} {stk : List Value} {hs : mH} {x : Option Value × mH × Nat × Nat} (hl : lle l l') (h : mEnds sc d y (pc, l, stk, hs, nc, ns) x) : mEnds sc d y (pc, l', stk, hs, nc, ns) x := h.ext (lle_ok hl)
end Q26
section Q27
/-! one instruction over a heap of fixed shape -/
abbrev mX : Type := Option Value × mH × Nat × Nat
section STP
variable {d y pc pc' i a b p n j : Nat} {z : Int} {loc : mL} {st : List Value} {sh : List sD} {σ σ' : sg} {x : mX} {fs : List (Option Nat)}
theorem t_mon {pc pc' : Nat} {l l' : mL} {s s' : List Value} {h h' : mH} {nc ns : Nat} : mmon (pc, l, s, h, nc, ns) (pc', l', s', h', nc, ns) = true := by
  unfold mmon
  rw [Nat.ble_eq_true_of_le (Nat.le_refl _), Nat.ble_eq_true_of_le (Nat.le_refl _)]; rfl
theorem t_fetch {y : Nat} {q : mS} {i : mI} {o : mO} (hf : mfetch y q.1 = some i) (h : mexec [] y i.2.1 i.2.2.2.1 i.2.2.2.2.1 i.2.2.2.2.2 q.1 q.2.1 q.2.2.1 q.2.2.2.1 q.2.2.2.2.1 q.2.2.2.2.2 = some o) : mstep [] y q = some o := by rw [mstep_of hf]; exact h
theorem t_gi (hf : mfetch y pc = some (pc, .getfield i, 3, a, b, z)) (hs : sh[p]? = some (.inr (a, fs))) (hb : fs[b]? = some none) (k : mEnds [] d y (pc + 3, loc, .int (σ p b) :: st, hp sh σ, 0, 0) x) : mEnds [] d y (pc, loc, .ref p :: st, hp sh σ, 0, 0) x := by
  refine mEnds.step (t_fetch hf ?_) t_mon k
  exact (hO_eq (hp_get hs)).trans ((oB_eq (Nat.beq_refl a)).trans ((oV_eq (v := .int (σ p b)) (by rw [List.getElem?_mapIdx, hb]; rfl)).trans rfl))
theorem t_gr {r : Nat} (hf : mfetch y pc = some (pc, .getfield i, 3, a, b, z)) (hs : sh[p]? = some (.inr (a, fs))) (hb : fs[b]? = some (some r)) (k : mEnds [] d y (pc + 3, loc, .ref r :: st, hp sh σ, 0, 0) x) : mEnds [] d y (pc, loc, .ref p :: st, hp sh σ, 0, 0) x := by
  refine mEnds.step (t_fetch hf ?_) t_mon k
  exact (hO_eq (hp_get hs)).trans ((oB_eq (Nat.beq_refl a)).trans ((oV_eq (v := .ref r) (by rw [List.getElem?_mapIdx, hb]; rfl)).trans rfl))
theorem t_pi {v : Int32} (hf : mfetch y pc = some (pc, .putfield i, 3, a, b, z)) (hs : sh[p]? = some (.inr (a, fs))) (hb : fs[b]? = some none) (h3 : Nat.ble mn0 p = true) (hfit : mfit (mty a b) (.int v) = true) (hσ : some (up σ p b v) = some σ') (k : mEnds [] d y (pc + 3, loc, st, hp sh σ', 0, 0) x) : mEnds [] d y (pc, loc, .int v :: .ref p :: st, hp sh σ, 0, 0) x := by
  cases hσ
  refine mEnds.step (t_fetch hf ?_) t_mon k
  have hl : b < (fs.mapIdx (hv σ p)).length := by rw [List.length_mapIdx]; exact (List.getElem?_eq_some_iff.mp hb).1
  refine (oB_eq h3).trans ((hO_eq (hp_get hs)).trans ((oB_eq (Nat.beq_refl a)).trans ((oB_eq (blt_of hl)).trans ((oB_eq hfit).trans ?_))))
  rw [hp_setF hs hb]; rfl
theorem t_ia {ix : Int32} (hf : mfetch y pc = some (pc, .iaload, 1, a, b, z)) (hs : sh[p]? = some (.inl (0, n))) (h3 : Nat.ble mn0 p = true) (hj : midx ix n = some j) (k : mEnds [] d y (pc + 1, loc, .int (σ p j) :: st, hp sh σ, 0, 0) x) : mEnds [] d y (pc, loc, .int ix :: .ref p :: st, hp sh σ, 0, 0) x := by
  refine mEnds.step (t_fetch hf ?_) t_mon k
  have hn : j < n := (midx_inv hj).2.2
  show (bif Nat.ble mn0 p then _ else _) = _
  rw [h3, cond_true]
  refine (hA_eq (hp_get hs)).trans ((oB_eq rfl).trans ((oI_eq (j := j) (by rw [rg_len]; exact hj)).trans ?_))
  rw [rg_getD hn]; rfl
theorem t_ba {kd : Nat} {ix : Int32} (hf : mfetch y pc = some (pc, .baload, 1, a, b, z)) (hs : sh[p]? = some (.inl (kd, n))) (hk : (Nat.beq kd 1 || Nat.beq kd 2) = true) (h3 : Nat.ble mn0 p = true) (hj : midx ix n = some j) (k : mEnds [] d y (pc + 1, loc, .int (σ p j) :: st, hp sh σ, 0, 0) x) : mEnds [] d y (pc, loc, .int ix :: .ref p :: st, hp sh σ, 0, 0) x := by
  refine mEnds.step (t_fetch hf ?_) t_mon k
  have hn : j < n := (midx_inv hj).2.2
  refine (oB_eq h3).trans ((hA_eq (hp_get hs)).trans ((oB_eq hk).trans ((oI_eq (j := j) (by rw [rg_len]; exact hj)).trans ?_)))
  rw [rg_getD hn]; rfl
/-- the rows that are only read -/
theorem t_ro {ix : Int32} (hf : mfetch y pc = some (pc, .iaload, 1, a, b, z)) (h12 : p = 1 ∨ p = 2) (hj : midx ix 4 = some j) (k : mEnds [] d y (pc + 1, loc, .int ((roA p).getD j 0) :: st, hp sh σ, 0, 0) x) : mEnds [] d y (pc, loc, .int ix :: .ref p :: st, hp sh σ, 0, 0) x := by
  refine mEnds.step (t_fetch hf ?_) t_mon k
  rcases h12 with rfl | rfl
  · exact (oI_eq hj).trans rfl
  · exact (oI_eq hj).trans rfl
theorem t_is {ix v : Int32} (hf : mfetch y pc = some (pc, .iastore, 1, a, b, z)) (hs : sh[p]? = some (.inl (0, n))) (h3 : Nat.ble mn0 p = true) (hj : midx ix n = some j) (hσ : some (up σ p j v) = some σ') (k : mEnds [] d y (pc + 1, loc, st, hp sh σ', 0, 0) x) : mEnds [] d y (pc, loc, .int v :: .int ix :: .ref p :: st, hp sh σ, 0, 0) x := by
  cases hσ
  refine mEnds.step (t_fetch hf ?_) t_mon k
  refine (oB_eq h3).trans ((hA_eq (hp_get hs)).trans ((oB_eq rfl).trans ((oI_eq (j := j) (by rw [rg_len]; exact hj)).trans ?_)))
  rw [hp_setA hs]; rfl
theorem t_bs {ix v : Int32} (hf : mfetch y pc = some (pc, .bastore, 1, a, b, z)) (hs : sh[p]? = some (.inl (1, n))) (h3 : Nat.ble mn0 p = true) (hj : midx ix n = some j) (hσ : some (up σ p j (vp_nar .byte v)) = some σ') (k : mEnds [] d y (pc + 1, loc, st, hp sh σ', 0, 0) x) : mEnds [] d y (pc, loc, .int v :: .int ix :: .ref p :: st, hp sh σ, 0, 0) x := by
  cases hσ
  refine mEnds.step (t_fetch hf ?_) t_mon k
  refine (oB_eq h3).trans ((hA_eq (hp_get hs)).trans ((oI_eq (j := j) (by rw [rg_len]; exact hj)).trans ?_))
  show mgo _ _ _ _ _ _ = _
  rw [hp_setA hs]; rfl
theorem t_zs {ix v : Int32} (hf : mfetch y pc = some (pc, .bastore, 1, a, b, z)) (hs : sh[p]? = some (.inl (2, n))) (h3 : Nat.ble mn0 p = true) (hj : midx ix n = some j) (hσ : some (up σ p j (vp_nar .boolean v)) = some σ') (k : mEnds [] d y (pc + 1, loc, st, hp sh σ', 0, 0) x) : mEnds [] d y (pc, loc, .int v :: .int ix :: .ref p :: st, hp sh σ, 0, 0) x := by
  cases hσ
  refine mEnds.step (t_fetch hf ?_) t_mon k
  refine (oB_eq h3).trans ((hA_eq (hp_get hs)).trans ((oI_eq (j := j) (by rw [rg_len]; exact hj)).trans ?_))
  show mgo _ _ _ _ _ _ = _
  rw [hp_setA hs]; rfl
theorem t_aa {c r : Nat} {ix : Int32} (hf : mfetch y pc = some (pc, .aaload, 1, a, b, z)) (hs : sh[p]? = some (.inr (c, fs))) (hc : (Nat.beq c 7 || Nat.beq c 8) = true) (hn : fs.length = n) (hj : midx ix n = some j) (hr : fs[j]? = some (some r)) (k : mEnds [] d y (pc + 1, loc, .ref r :: st, hp sh σ, 0, 0) x) : mEnds [] d y (pc, loc, .int ix :: .ref p :: st, hp sh σ, 0, 0) x := by
  refine mEnds.step (t_fetch hf ?_) t_mon k
  exact (hO_eq (hp_get hs)).trans ((oB_eq hc).trans ((oI_eq (j := j) (by rw [List.length_mapIdx, hn]; exact hj)).trans ((oR_eq (v := r) (by rw [List.getElem?_mapIdx, hr]; rfl)).trans rfl)))
theorem t_cp {s q m N : Nat} (hf : mfetch y pc = some (pc, .invokestatic i, 3, a, 4, z)) (hs : sh[s]? = some (.inl (0, N))) (hq : sh[q]? = some (.inl (0, m))) (h3 : Nat.ble mn0 s = true) (h4 : Nat.ble mn0 q = true) {w : Int32} (hw : ¬ w < 0) (hwn : w.toNatClampNeg = n) (hn : n ≤ N) (hm : n ≤ m) (hcat : Nat.ble (mcat st) 8 = true) (hσ : some (cpy σ s q n) = some σ')
    (k : mEnds [] d y (pc + 3, loc, st, hp sh σ', 0, 0) x) : mEnds [] d y (pc, loc, .int w :: .int 0 :: .ref q :: .int 0 :: .ref s :: st, hp sh σ, 0, 0) x := by
  cases hσ
  subst hwn
  refine mEnds.step (t_fetch hf ?_) t_mon k
  refine (oB_eq h4).trans ((oB_eq h3).trans ((hA_eq (hp_get hs)).trans ((hA_eq (hp_get hq)).trans ((oB_eq rfl).trans ((oB_eq rfl).trans ((oN_eq (by decide)).trans ((oN_eq (by decide)).trans ((oN_eq hw).trans ((oB_eq (Nat.ble_eq_true_of_le ?_)).trans ((oB_eq (Nat.ble_eq_true_of_le ?_)).trans ((oB_eq hcat).trans ?_)))))))))))
  · rw [rg_len]; show 0 + _ ≤ _; omega
  · rw [rg_len]; show 0 + _ ≤ _; omega
  · show mgo _ _ _ ((hp sh σ).set q (.inl (0, mcpy ((List.range N).map (σ s)) ((List.range m).map (σ q)) 0 0 w.toNatClampNeg))) _ _ = _
    rw [hp_setC hq hn hm]; rfl
/-! branches -/
theorem t_jT {cd : ClassFile.Cond} {off : Int} {v : Int32} {t : Nat} (hf : mfetch y pc = some (pc, .ifCond cd off, 3, a, b, z)) (ht : (pc : Int) + off = (t : Int)) (hc : mtk cd v 0 = true) (k : mEnds [] d y (t, loc, st, hp sh σ, 0, 0) x) : mEnds [] d y (pc, loc, .int v :: st, hp sh σ, 0, 0) x := by
  refine mEnds.step (t_fetch hf ?_) t_mon k
  show (bif mtk cd v 0 then mjp pc off loc st (hp sh σ) 0 0 else _) = _
  rw [hc, cond_true]; exact mjp_eq ht
theorem t_jF {cd : ClassFile.Cond} {off : Int} {v : Int32} (hf : mfetch y pc = some (pc, .ifCond cd off, 3, a, b, z)) (hc : mtk cd v 0 = false) (k : mEnds [] d y (pc + 3, loc, st, hp sh σ, 0, 0) x) : mEnds [] d y (pc, loc, .int v :: st, hp sh σ, 0, 0) x := by
  refine mEnds.step (t_fetch hf ?_) t_mon k
  show (bif mtk cd v 0 then _ else mgo (pc + 3) loc st (hp sh σ) 0 0) = _
  rw [hc, cond_false]; rfl
theorem t_cT {cd : ClassFile.Cond} {off : Int} {v w : Int32} {t : Nat} (hf : mfetch y pc = some (pc, .if_icmp cd off, 3, a, b, z)) (ht : (pc : Int) + off = (t : Int)) (hc : mtk cd v w = true) (k : mEnds [] d y (t, loc, st, hp sh σ, 0, 0) x) : mEnds [] d y (pc, loc, .int w :: .int v :: st, hp sh σ, 0, 0) x := by
  refine mEnds.step (t_fetch hf ?_) t_mon k
  show (bif mtk cd v w then mjp pc off loc st (hp sh σ) 0 0 else _) = _
  rw [hc, cond_true]; exact mjp_eq ht
theorem t_cF {cd : ClassFile.Cond} {off : Int} {v w : Int32} (hf : mfetch y pc = some (pc, .if_icmp cd off, 3, a, b, z)) (hc : mtk cd v w = false) (k : mEnds [] d y (pc + 3, loc, st, hp sh σ, 0, 0) x) : mEnds [] d y (pc, loc, .int w :: .int v :: st, hp sh σ, 0, 0) x := by
  refine mEnds.step (t_fetch hf ?_) t_mon k
  show (bif mtk cd v w then _ else mgo (pc + 3) loc st (hp sh σ) 0 0) = _
  rw [hc, cond_false]; rfl
theorem t_sw {v c : Int32} {t : Nat} (hx : v = c) (h : ∀ (l : mL) (s : List Value) (hh : mH), mstep [] y (pc, l, .int c :: s, hh, 0, 0) = some (.inl (t, l, s, hh, 0, 0))) (k : mEnds [] d y (t, loc, st, hp sh σ, 0, 0) x) : mEnds [] d y (pc, loc, .int v :: st, hp sh σ, 0, 0) x := by
  subst hx
  exact mEnds.step (h loc st _) t_mon k
theorem t_swD {v : Int32} {t : Nat} {df : Int} {lo hi : Int} {offs : Array Int} (hf : mfetch y pc = some (pc, .tableswitch df lo hi offs, n, a, b, z)) (ht : (pc : Int) + df = (t : Int)) (hx : ¬ (lo ≤ v.toInt ∧ v.toInt ≤ hi)) (k : mEnds [] d y (t, loc, st, hp sh σ, 0, 0) x) : mEnds [] d y (pc, loc, .int v :: st, hp sh σ, 0, 0) x := by
  refine mEnds.step (t_fetch hf ?_) t_mon k
  show (if v.toInt < lo ∨ hi < v.toInt then mjp pc df loc st (hp sh σ) 0 0 else _) = _
  rw [if_pos (by omega)]; exact mjp_eq ht
/-! calls -/
theorem t_cv {as : List Value} {v : Option Value} (hf : mfetch y pc = some (pc, .invokevirtual i, 3, a, 0, z)) (hs : sh[p]? = some (.inr (mown a, fs))) (h6 : Nat.blt (mown a) 6 = true) (hn : as.length = marg a) (hm : Nat.ble (margs (.ref p :: as)).length (mmaxL a) = true) (hcat : Nat.ble (mcat st) 8 = true)
    (h : mEnds [] d a (mentry a (.ref p :: as) (hp sh σ)) (v, hp sh σ', 0, 0)) (k : mEnds [] (d + 1) y (pc + 3, loc, v.toList ++ st, hp sh σ', 0, 0) x) : mEnds [] (d + 1) y (pc, loc, as.reverse ++ .ref p :: st, hp sh σ, 0, 0) x := by
  have hp' : mpop (marg a) (as.reverse ++ .ref p :: st) = some (as, .ref p :: st) := by
    unfold mpop
    rw [← hn, Nat.ble_eq_true_of_le (by rw [List.length_append, List.length_reverse]; omega), cond_true]
    have e : as.length = as.reverse.length := List.length_reverse.symm
    rw [e, List.take_left, List.drop_left, List.reverse_reverse]
  refine mEnds.call (q' := (pc + 3, loc, st, hp sh σ, 0, 0)) (t_fetch hf ((oP_eq hp').trans ((hO_eq (hp_get hs)).trans ((oB_eq (Nat.beq_refl _)).trans ((oB_eq h6).trans ((oB_eq hcat).trans rfl)))))) ?_ h k
  rw [t_mon, hm]; rfl
theorem t_cs {as : List Value} {v : Option Value} (hb : b = 0 ∨ b = 1) (hf : mfetch y pc = some (pc, .invokestatic i, 3, a, b, z)) (hn : as.length = marg a) (hm : Nat.ble (margs as).length (mmaxL a) = true) (hcat : Nat.ble (mcat st) 8 = true)
    (h : mEnds [] d a (mentry a as (hp sh σ)) (v, hp sh σ', 0, 0)) (k : mEnds [] (d + 1) y (pc + 3, loc, v.toList ++ st, hp sh σ', 0, 0) x) : mEnds [] (d + 1) y (pc, loc, as.reverse ++ st, hp sh σ, 0, 0) x := by
  have hp' : mpop (marg a) (as.reverse ++ st) = some (as, st) := by
    unfold mpop
    rw [← hn, Nat.ble_eq_true_of_le (by rw [List.length_append, List.length_reverse]; omega), cond_true]
    have e : as.length = as.reverse.length := List.length_reverse.symm
    rw [e, List.take_left, List.drop_left, List.reverse_reverse]
  refine mEnds.call (q' := (pc + 3, loc, st, hp sh σ, 0, 0)) (t_fetch hf ?_) ?_ h k
  · rcases hb with rfl | rfl
    · exact (oP_eq hp').trans ((oB_eq hcat).trans rfl)
    · exact (oP_eq hp').trans ((oB_eq hcat).trans rfl)
  · rw [t_mon, hm]; rfl
end STP
/-! what a compare says -/
section CMP
variable {u w : Int32}
theorem k_lt (h : u < w) : mtk .lt u w = true := decide_eq_true h
theorem k_lt' (h : ¬ u < w) : mtk .lt u w = false := decide_eq_false h
theorem k_ge (h : ¬ u < w) : mtk .ge u w = true := decide_eq_true (Int32.not_lt.mp h)
theorem k_ge' (h : u < w) : mtk .ge u w = false := decide_eq_false (Int32.not_le.mpr h)
theorem k_gt (h : w < u) : mtk .gt u w = true := decide_eq_true h
theorem k_gt' (h : ¬ w < u) : mtk .gt u w = false := decide_eq_false h
theorem k_le (h : ¬ w < u) : mtk .le u w = true := decide_eq_true (Int32.not_lt.mp h)
theorem k_le' (h : w < u) : mtk .le u w = false := decide_eq_false (Int32.not_le.mpr h)
theorem k_eq (h : u = w) : mtk .eq u w = true := decide_eq_true h
theorem k_eq' (h : ¬ u = w) : mtk .eq u w = false := decide_eq_false h
theorem k_ne (h : ¬ u = w) : mtk .ne u w = true := decide_eq_true h
theorem k_ne' (h : u = w) : mtk .ne u w = false := decide_eq_false (fun q => q h)
end CMP
section CMPL
variable {u w : Int64}
theorem lg_lt0 : (lg_cmp u w < 0) ↔ u < w := by
  unfold lg_cmp
  by_cases h1 : u > w
  · rw [if_pos h1]
    exact ⟨fun h => absurd h (by decide), fun h => absurd h (Int64.not_lt.mpr (Int64.le_of_lt h1))⟩
  · rw [if_neg h1]
    by_cases h2 : u = w
    · rw [if_pos h2]
      exact ⟨fun h => absurd h (by decide), fun h => absurd h (by rw [h2]; exact Int64.lt_irrefl)⟩
    · rw [if_neg h2]
      refine ⟨fun _ => ?_, fun _ => by decide⟩
      rw [Int64.lt_iff_toInt_lt]
      have h3 : ¬ w.toInt < u.toInt := fun q => h1 (Int64.lt_iff_toInt_lt.mpr q)
      have h4 : ¬ u.toInt = w.toInt := fun q => h2 (Int64.toInt_inj.mp q)
      omega
theorem lg_gt0 : (0 < lg_cmp u w) ↔ w < u := by
  unfold lg_cmp
  by_cases h1 : u > w
  · rw [if_pos h1]
    exact ⟨fun _ => h1, fun _ => by decide⟩
  · rw [if_neg h1]
    by_cases h2 : u = w
    · rw [if_pos h2]
      exact ⟨fun h => absurd h (by decide), fun h => absurd h h1⟩
    · rw [if_neg h2]
      exact ⟨fun h => absurd h (by decide), fun h => absurd h h1⟩
theorem lg_eq0 : (lg_cmp u w = 0) ↔ u = w := by
  unfold lg_cmp
  by_cases h1 : u > w
  · rw [if_pos h1]
    exact ⟨fun h => absurd h (by decide), fun h => absurd h1 (by rw [h]; exact Int64.lt_irrefl)⟩
  · rw [if_neg h1]
    by_cases h2 : u = w
    · rw [if_pos h2]
      exact ⟨fun _ => h2, fun _ => rfl⟩
    · rw [if_neg h2]
      exact ⟨fun h => absurd h (by decide), fun h => absurd h h2⟩
theorem l_lt (h : u < w) : mtk .lt (lg_cmp u w) 0 = true := k_lt (lg_lt0.mpr h)
theorem l_lt' (h : ¬ u < w) : mtk .lt (lg_cmp u w) 0 = false := k_lt' (fun q => h (lg_lt0.mp q))
theorem l_ge (h : ¬ u < w) : mtk .ge (lg_cmp u w) 0 = true := k_ge (fun q => h (lg_lt0.mp q))
theorem l_ge' (h : u < w) : mtk .ge (lg_cmp u w) 0 = false := k_ge' (lg_lt0.mpr h)
theorem l_gt (h : w < u) : mtk .gt (lg_cmp u w) 0 = true := k_gt (lg_gt0.mpr h)
theorem l_gt' (h : ¬ w < u) : mtk .gt (lg_cmp u w) 0 = false := k_gt' (fun q => h (lg_gt0.mp q))
theorem l_le (h : ¬ w < u) : mtk .le (lg_cmp u w) 0 = true := k_le (fun q => h (lg_gt0.mp q))
theorem l_le' (h : w < u) : mtk .le (lg_cmp u w) 0 = false := k_le' (lg_gt0.mpr h)
theorem l_eq (h : u = w) : mtk .eq (lg_cmp u w) 0 = true := k_eq (lg_eq0.mpr h)
theorem l_eq' (h : ¬ u = w) : mtk .eq (lg_cmp u w) 0 = false := k_eq' (fun q => h (lg_eq0.mp q))
theorem l_ne (h : ¬ u = w) : mtk .ne (lg_cmp u w) 0 = true := k_ne (fun q => h (lg_eq0.mp q))
theorem l_ne' (h : u = w) : mtk .ne (lg_cmp u w) 0 = false := k_ne' (lg_eq0.mpr h)
end CMPL
theorem sw_out {v : Int32} {lo hi : Int} (h : ∀ k : Nat, (k : Int) ≤ hi - lo → ¬ v = Int32.ofInt (lo + k)) : ¬ (lo ≤ v.toInt ∧ v.toInt ≤ hi) := fun q => by
  have e := h (v.toInt - lo).toNat (by omega)
  refine e ?_
  have e2 : lo + ((v.toInt - lo).toNat : Int) = v.toInt := by omega
  rw [e2, Int32.ofInt_toInt]
def FU : Nat := 100000
theorem z01 {v : Int32} (h : v = 0 ∨ v = 1) : (decide (v = 0) || decide (v = 1)) = true := by
  rcases h with rfl | rfl <;> rfl
end Q27
section Q28
/-! the shapes of the two heaps -/
def shC : List sD := [.inl (0, 0), .inl (0, 0), .inl (0, 0), .inl (0, 0), .inl (0, 0), .inl (0, 0), .inl (0, 0), .inl (0, 0), .inl (0, 0), .inl (0, 0), .inr (4, [some 11, some 19, some 20, some 21, some 22, some 23, some 27, none]), .inr (1, [none, none, none, none, none, some 12, some 13, some 14, some 15, some 16, some 17, some 18]), .inl (0, 6), .inl (0, 6), .inl (0, 6), .inl (0, 6), .inl (0, 6), .inl (0, 5), .inl (0, 8), .inr (7, [some 37, some 45]), .inl (2, 2), .inr (7, [some 53, some 61, some 69, some 77, some 85, some 93, some 101, some 109, some 117, some 125]), .inr (8, [some 133, some 135, some 137, some 139]), .inr (0, [some 24, some 25, some 26, none]), .inl (0, 6), .inl (0, 6), .inl (0, 6), .inr (3, [some 28, none, some 29, none, none, none, none, none, none, none, none]), .inl (1, 160), .inr (1, [none, none, none, none, none, some 30, some 31, some 32, some 33, some 34, some 35, some 36]), .inl (0, 6), .inl (0, 6), .inl (0, 6), .inl (0, 6), .inl (0, 6), .inl (0, 5), .inl (0, 8), .inr (1, [none, none, none, none, none, some 38, some 39, some 40, some 41, some 42, some 43, some 44]), .inl (0, 6), .inl (0, 6), .inl (0, 6), .inl (0, 6), .inl (0, 6), .inl (0, 5), .inl (0, 8), .inr (1, [none, none, none, none, none, some 46, some 47, some 48, some 49, some 50, some 51, some 52]), .inl (0, 6), .inl (0, 6), .inl (0, 6), .inl (0, 6), .inl (0, 6), .inl (0, 5), .inl (0, 8), .inr (1, [none, none, none, none, none, some 54, some 55, some 56, some 57, some 58, some 59, some 60]), .inl (0, 6), .inl (0, 6), .inl (0, 6), .inl (0, 6), .inl (0, 6), .inl (0, 5), .inl (0, 8), .inr (1, [none, none, none, none, none, some 62, some 63, some 64, some 65, some 66, some 67, some 68]), .inl (0, 6), .inl (0, 6), .inl (0, 6), .inl (0, 6), .inl (0, 6), .inl (0, 5), .inl (0, 8), .inr (1, [none, none, none, none, none, some 70, some 71, some 72, some 73, some 74, some 75, some 76]), .inl (0, 6), .inl (0, 6), .inl (0, 6), .inl (0, 6), .inl (0, 6), .inl (0, 5), .inl (0, 8), .inr (1, [none, none, none, none, none, some 78, some 79, some 80, some 81, some 82, some 83, some 84]), .inl (0, 6), .inl (0, 6), .inl (0, 6), .inl (0, 6), .inl (0, 6), .inl (0, 5), .inl (0, 8), .inr (1, [none, none, none, none, none, some 86, some 87, some 88, some 89, some 90, some 91, some 92]), .inl (0, 6), .inl (0, 6), .inl (0, 6), .inl (0, 6), .inl (0, 6), .inl (0, 5), .inl (0, 8), .inr (1, [none, none, none, none, none, some 94, some 95, some 96, some 97, some 98, some 99, some 100]), .inl (0, 6), .inl (0, 6), .inl (0, 6), .inl (0, 6), .inl (0, 6), .inl (0, 5), .inl (0, 8), .inr (1, [none, none, none, none, none, some 102, some 103, some 104, some 105, some 106, some 107, some 108]), .inl (0, 6), .inl (0, 6), .inl (0, 6), .inl (0, 6), .inl (0, 6), .inl (0, 5), .inl (0, 8), .inr (1, [none, none, none, none, none, some 110, some 111, some 112, some 113, some 114, some 115, some 116]), .inl (0, 6), .inl (0, 6), .inl (0, 6), .inl (0, 6), .inl (0, 6), .inl (0, 5), .inl (0, 8), .inr (1, [none, none, none, none, none, some 118, some 119, some 120, some 121, some 122, some 123, some 124]), .inl (0, 6), .inl (0, 6), .inl (0, 6), .inl (0, 6), .inl (0, 6), .inl (0, 5), .inl (0, 8), .inr (1, [none, none, none, none, none, some 126, some 127, some 128, some 129, some 130, some 131, some 132]), .inl (0, 6), .inl (0, 6), .inl (0, 6), .inl (0, 6), .inl (0, 6), .inl (0, 5), .inl (0, 8), .inr (2, [none, none, some 134]), .inl (0, 40), .inr (2, [none, none, some 136]), .inl (0, 40), .inr (2, [none, none, some 138]), .inl (0, 40), .inr (2, [none, none, some 140]), .inl (0, 40)]
def shM : List sD := [.inl (0, 0), .inl (0, 0), .inl (0, 0), .inl (0, 0), .inl (0, 0), .inl (0, 0), .inl (0, 0), .inl (0, 0), .inl (0, 0), .inl (0, 0), .inr (5, [some 11, none, some 12, none, none, none, none, some 13, none, none, none, none, none, none, none, none, some 14, some 15, some 16, none, none, some 17, none, some 18, some 19, some 20, some 21, some 22, none]), .inl (0, 312), .inl (0, 52), .inl (0, 160), .inl (0, 8), .inl (0, 29), .inl (0, 6), .inl (0, 18), .inl (0, 1260), .inl (2, 2), .inl (0, 4), .inl (0, 4), .inl (0, 160)]
def isH (b : Nat) : Prop := shC[b]? = some (.inr (1, [none, none, none, none, none, some (b + 1), some (b + 2), some (b + 3), some (b + 4), some (b + 5), some (b + 6), some (b + 7)])) ∧ shC[b + 1]? = some (.inl (0, 6)) ∧ shC[b + 2]? = some (.inl (0, 6)) ∧ shC[b + 3]? = some (.inl (0, 6)) ∧ shC[b + 4]? = some (.inl (0, 6)) ∧ shC[b + 5]? = some (.inl (0, 6)) ∧ shC[b + 6]? = some (.inl (0, 5)) ∧ shC[b + 7]? = some (.inl (0, 8))
def isS (b : Nat) : Prop := shC[b]? = some (.inr (2, [none, none, some (b + 1)])) ∧ shC[b + 1]? = some (.inl (0, 40))
theorem isH_le {b : Nat} (h : isH b) (k : Nat) : Nat.ble mn0 (b + k) = true := by
  refine Nat.ble_eq_true_of_le ?_
  rcases Nat.lt_or_ge b 10 with q | q
  · have h1 := h.1
    match b, q, h1 with
    | 0, _, h1 => cases h1
    | 1, _, h1 => cases h1
    | 2, _, h1 => cases h1
    | 3, _, h1 => cases h1
    | 4, _, h1 => cases h1
    | 5, _, h1 => cases h1
    | 6, _, h1 => cases h1
    | 7, _, h1 => cases h1
    | 8, _, h1 => cases h1
    | 9, _, h1 => cases h1
  · show 10 ≤ b + k; omega
theorem isS_le {b : Nat} (h : isS b) (k : Nat) : Nat.ble mn0 (b + k) = true := by
  refine Nat.ble_eq_true_of_le ?_
  rcases Nat.lt_or_ge b 10 with q | q
  · have h1 := h.1
    match b, q, h1 with
    | 0, _, h1 => cases h1
    | 1, _, h1 => cases h1
    | 2, _, h1 => cases h1
    | 3, _, h1 => cases h1
    | 4, _, h1 => cases h1
    | 5, _, h1 => cases h1
    | 6, _, h1 => cases h1
    | 7, _, h1 => cases h1
    | 8, _, h1 => cases h1
    | 9, _, h1 => cases h1
  · show 10 ≤ b + k; omega
theorem isH_11 : isH 11 := ⟨rfl, rfl, rfl, rfl, rfl, rfl, rfl, rfl⟩
theorem isH_29 : isH 29 := ⟨rfl, rfl, rfl, rfl, rfl, rfl, rfl, rfl⟩
theorem isH_53 : isH 53 := ⟨rfl, rfl, rfl, rfl, rfl, rfl, rfl, rfl⟩
theorem isH_125 : isH 125 := ⟨rfl, rfl, rfl, rfl, rfl, rfl, rfl, rfl⟩
theorem isH_tr {j : Nat} (h : j < 10) : isH (53 + 8 * j) := by
  match j, h with
  | 0, _ => exact ⟨rfl, rfl, rfl, rfl, rfl, rfl, rfl, rfl⟩
  | 1, _ => exact ⟨rfl, rfl, rfl, rfl, rfl, rfl, rfl, rfl⟩
  | 2, _ => exact ⟨rfl, rfl, rfl, rfl, rfl, rfl, rfl, rfl⟩
  | 3, _ => exact ⟨rfl, rfl, rfl, rfl, rfl, rfl, rfl, rfl⟩
  | 4, _ => exact ⟨rfl, rfl, rfl, rfl, rfl, rfl, rfl, rfl⟩
  | 5, _ => exact ⟨rfl, rfl, rfl, rfl, rfl, rfl, rfl, rfl⟩
  | 6, _ => exact ⟨rfl, rfl, rfl, rfl, rfl, rfl, rfl, rfl⟩
  | 7, _ => exact ⟨rfl, rfl, rfl, rfl, rfl, rfl, rfl, rfl⟩
  | 8, _ => exact ⟨rfl, rfl, rfl, rfl, rfl, rfl, rfl, rfl⟩
  | 9, _ => exact ⟨rfl, rfl, rfl, rfl, rfl, rfl, rfl, rfl⟩
theorem isH_im {j : Nat} (h : j < 2) : isH (37 + 8 * j) := by
  match j, h with
  | 0, _ => exact ⟨rfl, rfl, rfl, rfl, rfl, rfl, rfl, rfl⟩
  | 1, _ => exact ⟨rfl, rfl, rfl, rfl, rfl, rfl, rfl, rfl⟩
theorem isS_at {j : Nat} (h : j < 4) : isS (133 + 2 * j) := by
  match j, h with
  | 0, _ => exact ⟨rfl, rfl⟩
  | 1, _ => exact ⟨rfl, rfl⟩
  | 2, _ => exact ⟨rfl, rfl⟩
  | 3, _ => exact ⟨rfl, rfl⟩
theorem el_tr {j : Nat} (h : j < 10) : ([some 53, some 61, some 69, some 77, some 85, some 93, some 101, some 109, some 117, some 125] : List (Option Nat))[j]? = some (some (53 + 8 * j)) := by
  match j, h with
  | 0, _ => rfl
  | 1, _ => rfl
  | 2, _ => rfl
  | 3, _ => rfl
  | 4, _ => rfl
  | 5, _ => rfl
  | 6, _ => rfl
  | 7, _ => rfl
  | 8, _ => rfl
  | 9, _ => rfl
theorem el_im {j : Nat} (h : j < 2) : ([some 37, some 45] : List (Option Nat))[j]? = some (some (37 + 8 * j)) := by
  match j, h with
  | 0, _ => rfl
  | 1, _ => rfl
theorem el_sh {j : Nat} (h : j < 4) : ([some 133, some 135, some 137, some 139] : List (Option Nat))[j]? = some (some (133 + 2 * j)) := by
  match j, h with
  | 0, _ => rfl
  | 1, _ => rfl
  | 2, _ => rfl
  | 3, _ => rfl
theorem mi_lt {i : Int32} {n j : Nat} (h : midx i n = some j) : j < n := (midx_inv h).2.2
theorem ob {α β : Type} {o : Option α} {f : α → Option β} {x : β} (h : o.bind f = some x) : ∃ a, o = some a ∧ f a = some x := by
  cases o with
  | none => cases h
  | some a => exact ⟨a, rfl, h⟩
theorem mEnds.le {sc : List Int32} {d d' y : Nat} {q : mS} {x : mX} (h : mEnds sc d y q x) (hd : d ≤ d') : mEnds sc d' y q x := by
  have := h.deep (d' - d)
  rwa [Nat.add_sub_cancel' hd] at this
theorem mEnds.stp {d y pc pc' : Nat} {l l' : mL} {st st' : List Value} {h : mH} {x : mX} (k : Nat) (hs : ∀ h : mH, msteps [] k y (pc, l, st, h, 0, 0) = some (pc', l', st', h, 0, 0)) (e : mEnds [] d y (pc', l', st', h, 0, 0) x) : mEnds [] d y (pc, l, st, h, 0, 0) x := mEnds.steps k (hs h) e
theorem mEnds.rt {d y pc : Nat} {l : mL} {st : List Value} {h : mH} {v : Option Value} (hs : ∀ h : mH, mstep [] y (pc, l, st, h, 0, 0) = some (.inr (.inl v))) : mEnds [] d y (pc, l, st, h, 0, 0) (v, h, 0, 0) := mEnds.ret (hs h)
theorem mEnds.rti {d y pc : Nat} {l : mL} {sh : List sD} {s : sg} {e : Int32} {rv : Int32 × sg} (hrv : (e, s) = rv) (hs : ∀ h : mH, mstep [] y (pc, l, [.int e], h, 0, 0) = some (.inr (.inl (some (.int e))))) : mEnds [] d y (pc, l, [.int e], hp sh s, 0, 0) (some (.int rv.1), hp sh rv.2, 0, 0) := by
  subst hrv; exact mEnds.ret (hs _)
theorem mEnds.rtl {d y pc : Nat} {l : mL} {sh : List sD} {s : sg} {e : Int64} {rv : Int64 × sg} (hrv : (e, s) = rv) (hs : ∀ h : mH, mstep [] y (pc, l, [.long e], h, 0, 0) = some (.inr (.inl (some (.long e))))) : mEnds [] d y (pc, l, [.long e], hp sh s, 0, 0) (some (.long rv.1), hp sh rv.2, 0, 0) := by
  subst hrv; exact mEnds.ret (hs _)
section ST2
variable {d y pc i a b p n j : Nat} {z : Int} {loc : mL} {st : List Value} {sh : List sD} {σ : sg} {x : mX}
theorem t_ld {u w : Int64} (hf : mfetch y pc = some (pc, .ldiv, 1, a, b, z)) (h : ¬ w = 0) (k : mEnds [] d y (pc + 1, loc, .long (u / w) :: st, hp sh σ, 0, 0) x) : mEnds [] d y (pc, loc, .long w :: .long u :: st, hp sh σ, 0, 0) x := by
  refine mEnds.step (t_fetch hf ?_) t_mon k
  show (match (if w = 0 then none else some (Value.long (u / w))) with | some v => mgo (pc + 1) loc (v :: st) (hp sh σ) 0 0 | none => none) = _
  rw [if_neg h]; rfl
theorem t_lr {u w : Int64} (hf : mfetch y pc = some (pc, .lrem, 1, a, b, z)) (h : ¬ w = 0) (k : mEnds [] d y (pc + 1, loc, .long (u - u / w * w) :: st, hp sh σ, 0, 0) x) : mEnds [] d y (pc, loc, .long w :: .long u :: st, hp sh σ, 0, 0) x := by
  refine mEnds.step (t_fetch hf ?_) t_mon k
  show (match (if w = 0 then none else some (Value.long (u - u / w * w))) with | some v => mgo (pc + 1) loc (v :: st) (hp sh σ) 0 0 | none => none) = _
  rw [if_neg h]; rfl
theorem t_al {kd : Nat} (hf : mfetch y pc = some (pc, .arraylength, 1, a, b, z)) (hs : sh[p]? = some (.inl (kd, n))) (hk : Nat.ble kd 2 = true) (h3 : Nat.ble mn0 p = true) (k : mEnds [] d y (pc + 1, loc, .int (nI n) :: st, hp sh σ, 0, 0) x) : mEnds [] d y (pc, loc, .ref p :: st, hp sh σ, 0, 0) x := by
  refine mEnds.step (t_fetch hf ?_) t_mon k
  show (bif Nat.ble mn0 p then _ else _) = _
  rw [h3, cond_true]
  refine (hA_eq (hp_get hs)).trans ((oB_eq hk).trans ?_)
  rw [rg_len]; rfl
theorem t_sl {r : Nat} (hf : mfetch y pc = some (pc, .invokevirtual i, 3, a, 8, z)) (h1 : Nat.ble 3 r = true) (h2 : Nat.blt r 10 = true) (hcat : Nat.ble (mcat st) 8 = true) (k : mEnds [] d y (pc + 3, loc, .int (nI (roS r).length) :: st, hp sh σ, 0, 0) x) : mEnds [] d y (pc, loc, .ref r :: st, hp sh σ, 0, 0) x := by
  refine mEnds.step (t_fetch hf ?_) t_mon k
  exact (oB_eq h1).trans ((oB_eq h2).trans ((oB_eq hcat).trans rfl))
theorem t_sc {r : Nat} {ix : Int32} (hf : mfetch y pc = some (pc, .invokevirtual i, 3, a, 9, z)) (h1 : Nat.ble 3 r = true) (h2 : Nat.blt r 10 = true) (hcat : Nat.ble (mcat st) 8 = true) (hj : midx ix (roS r).length = some j) (k : mEnds [] d y (pc + 3, loc, .int ((roS r).getD j 0) :: st, hp sh σ, 0, 0) x) : mEnds [] d y (pc, loc, .int ix :: .ref r :: st, hp sh σ, 0, 0) x := by
  refine mEnds.step (t_fetch hf ?_) t_mon k
  exact (oB_eq h1).trans ((oB_eq h2).trans ((oB_eq hcat).trans ((oI_eq hj).trans rfl)))
theorem t_zr {v : Int32} {hs : mH} (hf : mfetch y pc = some (pc, .ireturn, 1, a, b, z)) (hr : mret y = some .boolean) (h : v = 0 ∨ v = 1) : mEnds [] d y (pc, loc, [.int v], hs, 0, 0) (some (.int v), hs, 0, 0) := by
  refine mEnds.ret (q := (pc, loc, [.int v], hs, 0, 0)) (t_fetch hf ?_)
  show (match mret y with | some .int => (some (Sum.inr (Sum.inl (some (Value.int v)))) : Option mO) | some .boolean => oB (decide (v = 0) || decide (v = 1)) (some (Sum.inr (Sum.inl (some (Value.int v))))) | _ => none) = _
  rw [hr]
  exact oB_eq (z01 h)
end ST2
end Q28
