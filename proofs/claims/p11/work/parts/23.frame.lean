/-! THE FRAME: a run on a small heap is a run on any heap in which it lies, under other places -/
theorem lI_eq {loc : mL} {i : Nat} {x : Int32} {F : Int32 → Option mO} (h : mld loc i = some (.int x)) : lI loc i F = F x := by unfold lI; rw [h]
theorem lL_eq {loc : mL} {i : Nat} {x : Int64} {F : Int64 → Option mO} (h : mld loc i = some (.long x)) : lL loc i F = F x := by unfold lL; rw [h]
theorem lR_eq {loc : mL} {i x : Nat} {F : Nat → Option mO} (h : mld loc i = some (.ref x)) : lR loc i F = F x := by unfold lR; rw [h]
theorem hO_eq {hs : mH} {r c : Nat} {vs : List Value} {F : Nat → List Value → Option mO} (h : hs[r]? = some (.inr (c, vs))) : hO hs r F = F c vs := by unfold hO; rw [h]
theorem hA_eq {hs : mH} {r c : Nat} {vs : List Int32} {F : Nat → List Int32 → Option mO} (h : hs[r]? = some (.inl (c, vs))) : hA hs r F = F c vs := by unfold hA; rw [h]
theorem oB_eq {b : Bool} {x : Option mO} (h : b = true) : oB b x = x := by rw [h]; rfl
theorem oI_eq {i : Int32} {n j : Nat} {F : Nat → Option mO} (h : midx i n = some j) : oI i n F = F j := by unfold oI; rw [h]
theorem oV_eq {vs : List Value} {k : Nat} {v : Value} {F : Value → Option mO} (h : vs[k]? = some v) : oV vs k F = F v := by unfold oV; rw [h]
theorem oR_eq {vs : List Value} {k v : Nat} {F : Nat → Option mO} (h : vs[k]? = some (.ref v)) : oR vs k F = F v := by unfold oR; rw [h]
theorem oN_eq {n : Int32} {F : Nat → Option mO} (h : ¬ n < 0) : oN n F = F n.toNatClampNeg := by unfold oN; rw [if_neg h]
theorem oP_eq {n : Nat} {stk as rest : List Value} {F : List Value → List Value → Option mO} (h : mpop n stk = some (as, rest)) : oP n stk F = F as rest := by unfold oP; rw [h]
def rE (σ : Nat → Nat) (x : mE) : mE := match x with
  | .inl a => .inl a
  | .inr (c, vs) => .inr (c, vs.map (cV σ))
def rL (σ : Nat → Nat) (loc : mL) : mL := loc.map (Option.map (cV σ))
theorem rL_ld {σ : Nat → Nat} {loc : mL} {i : Nat} {v : Value} (h : mld loc i = some v) : mld (rL σ loc) i = some (cV σ v) := by
  rw [mld_iff] at h ⊢
  rw [rL, List.getElem?_map, h]; rfl
theorem rL_clr (σ : Nat → Nat) (loc : mL) (i : Nat) : mclr (rL σ loc) i = rL σ (mclr loc i) := by
  cases i with
  | zero => rfl
  | succ i =>
    unfold mclr
    dsimp only
    rw [rL, List.getElem?_map]
    cases h : loc[i]? with
    | none => rfl
    | some w =>
      cases w with
      | none => rfl
      | some w =>
        show (bif Nat.beq (cV σ w).category 2 then (loc.map (Option.map (cV σ))).set i none else loc.map (Option.map (cV σ))) = rL σ (bif Nat.beq w.category 2 then loc.set i none else loc)
        rw [cV_cat]
        cases Nat.beq w.category 2 with
        | true => rw [cond_true, cond_true, rL, List.map_set]; rfl
        | false => rfl
theorem rL_st1 (σ : Nat → Nat) (loc : mL) (i : Nat) (v : Value) : mst1 (rL σ loc) i (cV σ v) = rL σ (mst1 loc i v) := by
  rw [mst1, mst1, rL_clr, rL, rL, List.map_set]; rfl
theorem rL_st2 (σ : Nat → Nat) (loc : mL) (i : Nat) (v : Value) : mst2 (rL σ loc) i (cV σ v) = rL σ (mst2 loc i v) := by
  rw [mst2, mst2, rL_clr, rL, rL, List.map_set, List.map_set]; rfl
theorem r_cat (σ : Nat → Nat) (st : List Value) : mcat (st.map (cV σ)) = mcat st := by
  unfold mcat
  rw [List.map_map]
  congr 1
  exact List.map_congr_left (fun v _ => cV_cat σ v)
theorem r_pop {σ : Nat → Nat} {n : Nat} {stk as rest : List Value} (h : mpop n stk = some (as, rest)) : mpop n (stk.map (cV σ)) = some (as.map (cV σ), rest.map (cV σ)) := by
  unfold mpop at h ⊢
  rw [List.length_map]
  cases q : Nat.ble n stk.length with
  | false => rw [q] at h; cases h
  | true =>
    rw [q, cond_true] at h
    cases h
    rw [cond_true, List.map_reverse, List.map_take, List.map_drop]
/-- the small heap lies in the large one -/
def mEmb (σ : Nat → Nat) (hs HS : mH) : Prop := (∀ i x, hs[i]? = some x → HS[σ i]? = some (rE σ x)) ∧ (∀ i j, i < hs.length → j < hs.length → σ i = σ j → i = j) ∧ (∀ i, mn0 ≤ i → mn0 ≤ σ i) ∧ (∀ i, i < mn0 → σ i = i)
/-- nothing else has changed -/
def mOff (σ : Nat → Nat) (n : Nat) (HS HS' : mH) : Prop := HS'.length = HS.length ∧ ∀ p, (∀ i, mn0 ≤ i → i < n → σ i ≠ p) → HS'[p]? = HS[p]?
theorem mOff.rf {σ : Nat → Nat} {n : Nat} {HS : mH} : mOff σ n HS HS := ⟨rfl, fun _ _ => rfl⟩
theorem mOff.tr {σ : Nat → Nat} {n : Nat} {A B C : mH} (h1 : mOff σ n A B) (h2 : mOff σ n B C) : mOff σ n A C := ⟨h2.1.trans h1.1, fun p hp => (h2.2 p hp).trans (h1.2 p hp)⟩
theorem mEmb.set {σ : Nat → Nat} {hs HS : mH} (h : mEmb σ hs HS) {r : Nat} {x0 x : mE} (h3 : mn0 ≤ r) (hr : hs[r]? = some x0) : mEmb σ (hs.set r x) (HS.set (σ r) (rE σ x)) ∧ mOff σ hs.length HS (HS.set (σ r) (rE σ x)) := by
  have hl : r < hs.length := (List.getElem?_eq_some_iff.mp hr).1
  have hL : σ r < HS.length := (List.getElem?_eq_some_iff.mp (h.1 r x0 hr)).1
  refine ⟨⟨fun i w hw => ?_, by rw [List.length_set]; exact h.2.1, h.2.2⟩, List.length_set, fun p hp => ?_⟩
  · rw [List.getElem?_set] at hw
    by_cases e : r = i
    · subst e
      rw [if_pos rfl, if_pos hl] at hw
      cases hw
      rw [List.getElem?_set, if_pos rfl, if_pos hL]
    · rw [if_neg e] at hw
      have hi : i < hs.length := (List.getElem?_eq_some_iff.mp hw).1
      rw [List.getElem?_set, if_neg (fun q => e (h.2.1 r i hl hi q))]
      exact h.1 i w hw
  · rw [List.getElem?_set, if_neg (hp r h3 hl)]
theorem rE_set (σ : Nat → Nat) (c k : Nat) (vs : List Value) (v : Value) : rE σ (.inr (c, vs.set k v)) = .inr (c, (vs.map (cV σ)).set k (cV σ v)) := by
  show Sum.inr (c, (vs.set k v).map (cV σ)) = _
  rw [List.map_set]
theorem r_fit {σ : Nat → Nat} {ty : FieldType} {v : Value} (h : mfit ty v = true) : mfit ty (cV σ v) = true := by
  cases v <;> first | exact h | (cases ty <;> exact h)
