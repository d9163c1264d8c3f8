/-! how a state of the mini machine stands in the machine's heap -/
def cV (ad : Nat → Nat) (v : Value) : Value := match v with
  | .ref a => .ref (ad a)
  | .int x => .int x
  | .long x => .long x
  | .float x => .float x
  | .double x => .double x
  | .null => .null
  | .retAddr x => .retAddr x
theorem cV_cat (ad : Nat → Nat) (v : Value) : (cV ad v).category = v.category := by cases v <;> rfl
def cF (ad : Nat → Nat) (v : Value) : Option Nat := match v with
  | .ref a => some (ad a)
  | _ => none
def cE (tc : Nat → ClassId) (ad : Nat → Nat) (x : mE) : va_E := match x with
  | .inl (k, xs) => .inl (tc k, xs.length, .inl (fun j => xs.getD j 0))
  | .inr (c, vs) => bif Nat.blt c 6 then .inr (c, vs.map (cV ad)) else .inl (tc (c - 4), vs.length, .inr (.inr (.inr (.inr (fun j => cF ad (vs.getD j .null))))))
def cW (tc : Nat → ClassId) (ad : Nat → Nat) (hs : mH) : va_W := hs.mapIdx (fun k e => (ad k, cE tc ad e))
theorem cW_get {tc : Nat → ClassId} {ad : Nat → Nat} {hs : mH} {r : Nat} {x : mE} (h : hs[r]? = some x) : (cW tc ad hs)[r]? = some (ad r, cE tc ad x) := by
  rw [cW, List.getElem?_mapIdx, h]; rfl
theorem cW_set {tc : Nat → ClassId} {ad : Nat → Nat} (hs : mH) (r : Nat) (x : mE) : cW tc ad (hs.set r x) = (cW tc ad hs).set r (ad r, cE tc ad x) := by
  apply List.ext_getElem?
  intro i
  rw [cW, List.getElem?_mapIdx, List.getElem?_set, List.getElem?_set]
  by_cases e : r = i
  · subst e
    by_cases hl : r < hs.length
    · simp [hl, cW]
    · simp [hl, cW]
  · simp [e, cW, List.getElem?_mapIdx]
theorem cW_app {tc : Nat → ClassId} {ad : Nat → Nat} (hs : mH) (x : mE) : cW tc ad (hs ++ [x]) = cW tc ad hs ++ [(ad hs.length, cE tc ad x)] := by
  simp [cW, List.mapIdx_append]
def mtys (tc : Nat → ClassId) : List (ClassId × FieldType) := [(tc 0, .int), (tc 1, .byte), (tc 2, .boolean), (tc 3, .object RX1), (tc 4, .object RX2)]
theorem vw_get {c : Nat} (h : c < 6) : vwCl[c]? = some (mR c, mT c, mN c) := by
  match c, h with
  | 0, _ => rfl
  | 1, _ => rfl
  | 2, _ => rfl
  | 3, _ => rfl
  | 4, _ => rfl
  | 5, _ => rfl
theorem cX_get {tc : Nat → ClassId} {ad : Nat → Nat} {hs : mH} {r : Nat} {x : mE} (h3 : mn0 ≤ r) (h : hs[r]? = some x) : ((cW tc ad hs).drop mn0)[r - mn0]? = some (ad r, cE tc ad x) := by
  rw [List.getElem?_drop, Nat.add_sub_cancel' h3]; exact cW_get h
/-- the heap: the script at place 0 (read by the law alone), the world behind it -/
def mSt (D : va_G) (tc : Nat → ClassId) (ad : Nat → Nat) (A : Nat → Prop) (scr : List Int32) (H0 : Heap) (hs : mH) (H : Heap) (locs : List Loc) : Prop :=
  va_P D vwCl ((cW tc ad hs).drop mn0) H ∧ va_D (fun _ => True) ((cW tc ad hs).drop mn0) ∧ va_S A H0 H locs ∧ (∀ k : Nat, hs.length ≤ k → ad k = H.size + (k - hs.length)) ∧ (∀ k : Nat, mn0 ≤ k → A (ad k)) ∧ (∀ r : Nat, r < mn0 → hs[r]? = some (.inl (0, scr)))
theorem mSt.obj {D : va_G} {tc : Nat → ClassId} {ad : Nat → Nat} {A : Nat → Prop} {scr : List Int32} {H0 H : Heap} {hs : mH} {locs : List Loc} {r : Nat} {x : Nat × List Value} (h : mSt D tc ad A scr H0 hs H locs) (hr : hs[r]? = some (.inr x)) : mn0 ≤ r := by
  rcases Nat.lt_or_ge r mn0 with q | q
  · rw [h.2.2.2.2.2 r q] at hr; cases hr
  · exact q
theorem mSt.put {D : va_G} {tc : Nat → ClassId} {ad : Nat → Nat} {A : Nat → Prop} {scr : List Int32} {H0 H H1 : Heap} {hs : mH} {locs : List Loc} {r k : Nat} {x0 x : mE} (h : mSt D tc ad A scr H0 hs H locs) (h3 : mn0 ≤ r) (hr : hs[r]? = some x0)
    (he : va_at D vwCl (ad r, cE tc ad x) H1) (z : H1.size = H.size) (oq : ∀ q : Nat, q ≠ ad r → H1[q]? = H[q]?) : mSt D tc ad A scr H0 (hs.set r x) H1 (locs ++ [⟨ad r, k⟩]) := by
  obtain ⟨hP, hD, hS, ha, hw, h0⟩ := h
  have hr' := cX_get (tc := tc) (ad := ad) h3 hr
  refine ⟨?_, ?_, hS.put z oq (hw r h3), ?_, hw, ?_⟩
  · rw [cW_set, List.drop_set, if_neg (Nat.not_lt.mpr h3)]; exact hP.set hD hr' he oq
  · rw [cW_set, List.drop_set, if_neg (Nat.not_lt.mpr h3)]; exact hD.set hr'
  · intro k hk
    rw [List.length_set] at hk ⊢
    rw [z]; exact ha k hk
  · intro r' hr'
    rw [List.getElem?_set, if_neg (fun q => by omega)]; exact h0 r' hr'
theorem mSt.new {D : va_G} {tc : Nat → ClassId} {ad : Nat → Nat} {A : Nat → Prop} {scr : List Int32} {H0 H H1 : Heap} {hs : mH} {locs : List Loc} {x : mE} (h : mSt D tc ad A scr H0 hs H locs)
    (he : va_at D vwCl (H.size, cE tc ad x) H1) (z : H1.size = H.size + 1) (oq : ∀ q : Nat, q < H.size → H1[q]? = H[q]?) : mSt D tc ad A scr H0 (hs ++ [x]) H1 locs := by
  obtain ⟨hP, hD, hS, ha, hw, h0⟩ := h
  have hlen : mn0 ≤ hs.length := (List.getElem?_eq_some_iff.mp (h0 9 (by decide))).1
  have hz : ad hs.length = H.size := by rw [ha _ (Nat.le_refl _)]; omega
  have hdr : (cW tc ad (hs ++ [x])).drop mn0 = (cW tc ad hs).drop mn0 ++ [(ad hs.length, cE tc ad x)] := by
    rw [cW_app, List.drop_append_of_le_length (by rw [cW, List.length_mapIdx]; exact hlen)]
  have hk : ∀ (k : Nat) (x : Nat × va_E), ((cW tc ad hs).drop mn0)[k]? = some x → H1[x.1]? = H[x.1]? := fun k x hx => oq x.1 ((hP k x hx).lt)
  refine ⟨?_, ?_, ⟨Nat.le_trans hS.1 (by omega), fun q h1 h2 => (oq q (Nat.lt_of_lt_of_le h1 hS.1)).trans (hS.2.1 q h1 h2), hS.2.2⟩, ?_, hw, ?_⟩
  · rw [hdr]
    refine (hP.kept hk).app (fun k q hq => ?_)
    have hz1 : k < 1 := (List.getElem?_eq_some_iff.mp hq).1
    rw [show k = 0 by omega] at hq
    cases hq
    rw [hz]; exact he
  · rw [hdr]
    exact hD.push hP hz trivial
  · intro k hk
    rw [List.length_append, List.length_singleton] at hk ⊢
    rw [ha k (by omega), z]; omega
  · intro r hr
    rw [List.getElem?_append_left (Nat.lt_of_lt_of_le hr hlen)]; exact h0 r hr
/-! locals -/
def mLoc (ad : Nat → Nat) (loc : mL) (n : Nat) (ls : Array Slot) : Prop := ls.size = n ∧ lv_wf ls ∧ ∀ (i : Nat) (v : Value), mld loc i = some v → ls[i]? = some (.val (cV ad v))
def mflat (ad : Nat → Nat) (loc : mL) : List (Nat × Value) := (List.range loc.length).filterMap (fun i => (mld loc i).map (fun v => (i, cV ad v)))
theorem mld_lt {loc : mL} {i : Nat} {v : Value} (h : mld loc i = some v) : i < loc.length := by
  rcases Nat.lt_or_ge i loc.length with q | q
  · exact q
  · rw [mld, List.getElem?_eq_none q] at h; cases h
theorem mld_iff {loc : mL} {i : Nat} {v : Value} : mld loc i = some v ↔ loc[i]? = some (some v) := by
  unfold mld
  split
  · next w h => rw [h]; simp
  · next h =>
    constructor
    · intro q; cases q
    · intro q; exact absurd q (h v)
theorem mflat_mem {ad : Nat → Nat} {loc : mL} {q : Nat × Value} : q ∈ mflat ad loc ↔ ∃ v, mld loc q.1 = some v ∧ q.2 = cV ad v := by
  obtain ⟨i, w⟩ := q
  simp only [mflat, List.mem_filterMap, List.mem_range, Option.map_eq_some_iff, Prod.mk.injEq]
  constructor
  · rintro ⟨j, hj, v, hv, rfl, rfl⟩; exact ⟨v, hv, rfl⟩
  · rintro ⟨v, hv, rfl⟩; exact ⟨i, mld_lt hv, v, hv, rfl, rfl⟩
theorem mLoc.has {ad : Nat → Nat} {loc : mL} {n : Nat} {ls : Array Slot} (h : mLoc ad loc n ls) : lv_has ls n (mflat ad loc) :=
  ⟨h.1, h.2.1, fun q hq => by obtain ⟨v, h1, h2⟩ := mflat_mem.mp hq; rw [h2]; exact h.2.2 q.1 v h1⟩
theorem mclr_get {loc : mL} {i j : Nat} {v : Value} (h : (mclr loc i)[j]? = some (some v)) : loc[j]? = some (some v) ∧ ¬ (j + 1 = i ∧ v.category = 2) := by
  cases i with
  | zero => exact ⟨h, fun q => by omega⟩
  | succ i =>
    unfold mclr at h
    dsimp only at h
    cases e : loc[i]? with
    | none =>
      rw [e] at h
      refine ⟨h, fun q => ?_⟩
      have : j = i := by omega
      subst this; rw [e] at h; cases h
    | some w =>
      cases w with
      | none =>
        rw [e] at h
        refine ⟨h, fun q => ?_⟩
        have : j = i := by omega
        subst this; rw [e] at h; cases h
      | some w =>
        rw [e] at h
        dsimp only at h
        cases c : Nat.beq w.category 2 with
        | true =>
          rw [c, cond_true, List.getElem?_set] at h
          by_cases q : i = j
          · rw [if_pos q] at h
            split at h <;> cases h
          · rw [if_neg q] at h
            exact ⟨h, fun z => by omega⟩
        | false =>
          rw [c, cond_false] at h
          refine ⟨h, fun q => ?_⟩
          have : j = i := by omega
          subst this
          rw [e] at h
          cases h
          rw [q.2] at c
          cases c
theorem mLoc.st1 {ad : Nat → Nat} {loc : mL} {n i : Nat} {v : Value} {ls : Array Slot} (h : lv_has ls n ((i, cV ad v) :: (mflat ad loc).filter (fun q => !(q.1 == i) && !(q.1 + 1 == i && q.2.category == 2)))) : mLoc ad (mst1 loc i v) n ls := by
  refine ⟨h.1, h.2.1, fun j w hj => ?_⟩
  rw [mld_iff, mst1, List.getElem?_set] at hj
  by_cases e : i = j
  · subst e
    rw [if_pos rfl] at hj
    split at hj
    · cases hj; exact h.2.2 (i, cV ad v) List.mem_cons_self
    · cases hj
  · rw [if_neg e] at hj
    obtain ⟨h1, h2⟩ := mclr_get hj
    refine h.2.2 (j, cV ad w) (List.mem_cons_of_mem _ (List.mem_filter.mpr ⟨mflat_mem.mpr ⟨w, mld_iff.mpr h1, rfl⟩, ?_⟩))
    simp only [Bool.and_eq_true, Bool.not_eq_true', beq_eq_false_iff_ne, ne_eq, Bool.and_eq_false_iff, cV_cat]
    refine ⟨fun q => e q.symm, ?_⟩
    by_cases q : j + 1 = i
    · exact Or.inr (fun z => h2 ⟨q, z⟩)
    · exact Or.inl q
theorem mLoc.st2 {ad : Nat → Nat} {loc : mL} {n i : Nat} {v : Value} {ls : Array Slot} (h : lv_has ls n ((i, cV ad v) :: (mflat ad loc).filter (fun q => !(q.1 == i) && (!(q.1 == i + 1) && !(q.1 + 1 == i && q.2.category == 2))))) : mLoc ad (mst2 loc i v) n ls := by
  refine ⟨h.1, h.2.1, fun j w hj => ?_⟩
  rw [mld_iff, mst2, List.getElem?_set] at hj
  by_cases e1 : i + 1 = j
  · rw [if_pos e1] at hj
    split at hj <;> cases hj
  · rw [if_neg e1, List.getElem?_set] at hj
    by_cases e : i = j
    · subst e
      rw [if_pos rfl] at hj
      split at hj
      · cases hj; exact h.2.2 (i, cV ad v) List.mem_cons_self
      · cases hj
    · rw [if_neg e] at hj
      obtain ⟨h1, h2⟩ := mclr_get hj
      refine h.2.2 (j, cV ad w) (List.mem_cons_of_mem _ (List.mem_filter.mpr ⟨mflat_mem.mpr ⟨w, mld_iff.mpr h1, rfl⟩, ?_⟩))
      simp only [Bool.and_eq_true, Bool.not_eq_true', beq_eq_false_iff_ne, ne_eq, Bool.and_eq_false_iff, cV_cat]
      refine ⟨fun q => e q.symm, fun q => e1 q.symm, ?_⟩
      by_cases q : j + 1 = i
      · exact Or.inr (fun z => h2 ⟨q, z⟩)
      · exact Or.inl q
/-! inversions -/
theorem mgo_inv {pc : Nat} {loc : mL} {stk : List Value} {hs : mH} {nc ns : Nat} {q : mS} (h : mgo pc loc stk hs nc ns = some (.inl q)) : q = (pc, loc, stk, hs, nc, ns) := by cases h; rfl
theorem mjp_inv {pc : Nat} {off : Int} {loc : mL} {stk : List Value} {hs : mH} {nc ns : Nat} {q : mS} (h : mjp pc off loc stk hs nc ns = some (.inl q)) : ∃ t : Nat, (pc : Int) + off = (t : Int) ∧ q = (t, loc, stk, hs, nc, ns) := by
  unfold mjp at h
  cases e : (pc : Int) + off with
  | ofNat t => rw [e] at h; exact ⟨t, rfl, mgo_inv h⟩
  | negSucc t => rw [e] at h; cases h
theorem mI1_inv {f : Int32 → Value} {k : List Value → Option mO} {stk : List Value} {o : mO} (h : mI1 f k stk = some o) : ∃ x st, stk = .int x :: st ∧ k (f x :: st) = some o := by
  unfold mI1 at h
  split at h
  · exact ⟨_, _, rfl, h⟩
  · cases h
theorem mI2_inv {f : Int32 → Int32 → Option Int32} {k : List Value → Option mO} {stk : List Value} {o : mO} (h : mI2 f k stk = some o) : ∃ x y st v, stk = .int y :: .int x :: st ∧ f x y = some v ∧ k (.int v :: st) = some o := by
  unfold mI2 at h
  split at h
  · next y x st =>
    cases e : f x y with
    | none => rw [e] at h; cases h
    | some v => rw [e] at h; exact ⟨x, y, st, v, rfl, e, h⟩
  · cases h
theorem mL2_inv {f : Int64 → Int64 → Option Value} {k : List Value → Option mO} {stk : List Value} {o : mO} (h : mL2 f k stk = some o) : ∃ x y st v, stk = .long y :: .long x :: st ∧ f x y = some v ∧ k (v :: st) = some o := by
  unfold mL2 at h
  split at h
  · next y x st =>
    cases e : f x y with
    | none => rw [e] at h; cases h
    | some v => rw [e] at h; exact ⟨x, y, st, v, rfl, e, h⟩
  · cases h
theorem midx_inv {i : Int32} {n j : Nat} (h : midx i n = some j) : vp_in i n ∧ i.toNatClampNeg = j ∧ j < n := by
  unfold midx at h
  by_cases h0 : i < 0
  · rw [if_pos h0] at h; cases h
  · rw [if_neg h0] at h
    cases e : Nat.blt i.toNatClampNeg n with
    | false => rw [e] at h; cases h
    | true =>
      rw [e, cond_true] at h
      cases h
      have hl : i.toNatClampNeg < n := Nat.le_of_ble_eq_true e
      exact ⟨fun q => q.elim h0 (fun z => absurd hl (Nat.not_lt.mpr z)), rfl, hl⟩
