/-! the shapes of the two heaps -/
def shC : List sD := [.inl (0, 0), .inl (0, 0), .inl (0, 0), .inl (0, 0), .inl (0, 0), .inl (0, 0), .inl (0, 0), .inl (0, 0), .inl (0, 0), .inl (0, 0), .inr (4, [some 11, some 19, some 20, some 21, some 22, some 23, some 27, none]), .inr (1, [none, none, none, none, none, some 12, some 13, some 14, some 15, some 16, some 17, some 18]), .inl (0, 6), .inl (0, 6), .inl (0, 6), .inl (0, 6), .inl (0, 6), .inl (0, 5), .inl (0, 8), .inr (7, [some 37, some 45]), .inl (2, 2), .inr (7, [some 53, some 61, some 69, some 77, some 85, some 93, some 101, some 109, some 117, some 125]), .inr (8, [some 133, some 135, some 137, some 139]), .inr (0, [some 24, some 25, some 26, none]), .inl (0, 6), .inl (0, 6), .inl (0, 6), .inr (3, [some 28, none, some 29, none, none, none, none, none, none, none, none]), .inl (1, 160), .inr (1, [none, none, none, none, none, some 30, some 31, some 32, some 33, some 34, some 35, some 36]), .inl (0, 6), .inl (0, 6), .inl (0, 6), .inl (0, 6), .inl (0, 6), .inl (0, 5), .inl (0, 8), .inr (1, [none, none, none, none, none, some 38, some 39, some 40, some 41, some 42, some 43, some 44]), .inl (0, 6), .inl (0, 6), .inl (0, 6), .inl (0, 6), .inl (0, 6), .inl (0, 5), .inl (0, 8), .inr (1, [none, none, none, none, none, some 46, some 47, some 48, some 49, some 50, some 51, some 52]), .inl (0, 6), .inl (0, 6), .inl (0, 6), .inl (0, 6), .inl (0, 6), .inl (0, 5), .inl (0, 8), .inr (1, [none, none, none, none, none, some 54, some 55, some 56, some 57, some 58, some 59, some 60]), .inl (0, 6), .inl (0, 6), .inl (0, 6), .inl (0, 6), .inl (0, 6), .inl (0, 5), .inl (0, 8), .inr (1, [none, none, none, none, none, some 62, some 63, some 64, some 65, some 66, some 67, some 68]), .inl (0, 6), .inl (0, 6), .inl (0, 6), .inl (0, 6), .inl (0, 6), .inl (0, 5), .inl (0, 8), .inr (1, [none, none, none, none, none, some 70, some 71, some 72, some 73, some 74, some 75, some 76]), .inl (0, 6), .inl (0, 6), .inl (0, 6), .inl (0, 6), .inl (0, 6), .inl (0, 5), .inl (0, 8), .inr (1, [none, none, none, none, none, some 78, some 79, some 80, some 81, some 82, some 83, some 84]), .inl (0, 6), .inl (0, 6), .inl (0, 6), .inl (0, 6), .inl (0, 6), .inl (0, 5), .inl (0, 8), .inr (1, [none, none, none, none, none, some 86, some 87, some 88, some 89, some 90, some 91, some 92]), .inl (0, 6), .inl (0, 6), .inl (0, 6), .inl (0, 6), .inl (0, 6), .inl (0, 5), .inl (0, 8), .inr (1, [none, none, none, none, none, some 94, some 95, some 96, some 97, some 98, some 99, some 100]), .inl (0, 6), .inl (0, 6), .inl (0, 6), .inl (0, 6), .inl (0, 6), .inl (0, 5), .inl (0, 8), .inr (1, [none, none, none, none, none, some 102, some 103, some 104, some 105, some 106, some 107, some 108]), .inl (0, 6), .inl (0, 6), .inl (0, 6), .inl (0, 6), .inl (0, 6), .inl (0, 5), .inl (0, 8), .inr (1, [none, none, none, none, none, some 110, some 111, some 112, some 113, some 114, some 115, some 116]), .inl (0, 6), .inl (0, 6), .inl (0, 6), .inl (0, 6), .inl (0, 6), .inl (0, 5), .inl (0, 8), .inr (1, [none, none, none, none, none, some 118, some 119, some 120, some 121, some 122, some 123, some 124]), .inl (0, 6), .inl (0, 6), .inl (0, 6), .inl (0, 6), .inl (0, 6), .inl (0, 5), .inl (0, 8), .inr (1, [none, none, none, none, none, some 126, some 127, some 128, some 129, some 130, some 131, some 132]), .inl (0, 6), .inl (0, 6), .inl (0, 6), .inl (0, 6), .inl (0, 6), .inl (0, 5), .inl (0, 8), .inr (2, [none, none, some 134]), .inl (0, 40), .inr (2, [none, none, some 136]), .inl (0, 40), .inr (2, [none, none, some 138]), .inl (0, 40), .inr (2, [none, none, some 140]), .inl (0, 40)]
def shM : List sD := [.inl (0, 0), .inl (0, 0), .inl (0, 0), .inl (0, 0), .inl (0, 0), .inl (0, 0), .inl (0, 0), .inl (0, 0), .inl (0, 0), .inl (0, 0), .inr (5, [some 11, none, some 12, none, none, none, none, some 13, none, none, none, none, none, none, none, none, some 14, some 15, some 16, none, none, some 17, none, some 18, some 19, some 20, some 21, some 22, none]), .inl (0, 312), .inl (0, 52), .inl (0, 160), .inl (0, 8), .inl (0, 29), .inl (0, 6), .inl (0, 18), .inl (0, 1260), .inl (2, 2), .inl (0, 4), .inl (0, 4), .inl (0, 160)]
def isH (b : Nat) : Prop := shC[b]? = some (.inr (1, [none, none, none, none, none, some (b + 1), some (b + 2), some (b + 3), some (b + 4), some (b + 5), some (b + 6), some (b + 7)])) ∧ shC[b + 1]? = some (.inl (0, 6)) ∧ shC[b + 2]? = some (.inl (0, 6)) ∧ shC[b + 3]? = some (.inl (0, 6)) ∧ shC[b + 4]? = some (.inl (0, 6)) ∧ shC[b + 5]? = some (.inl (0, 6)) ∧ shC[b + 6]? = some (.inl (0, 5)) ∧ shC[b + 7]? = some (.inl (0, 8))
def isS (b : Nat) : Prop := shC[b]? = some (.inr (2, [none, none, some (b + 1)])) ∧ shC[b + 1]? = some (.inl (0, 40))
theorem isH_le {b : Nat} (h : isH b) (k : Nat) : Nat.ble mn0 (b + k) = true := by
  refine Nat.ble_eq_true_of_le ?_
  rcases Nat.lt_or_ge b 10 with q | q
  · have h1 := h.1
    match b, q, h1 with
    | 0, _, h1 => cases h1
    | 1, _, h1 => cases h1
    | 2, _, h1 => cases h1
    | 3, _, h1 => cases h1
    | 4, _, h1 => cases h1
    | 5, _, h1 => cases h1
    | 6, _, h1 => cases h1
    | 7, _, h1 => cases h1
    | 8, _, h1 => cases h1
    | 9, _, h1 => cases h1
  · show 10 ≤ b + k; omega
theorem isS_le {b : Nat} (h : isS b) (k : Nat) : Nat.ble mn0 (b + k) = true := by
  refine Nat.ble_eq_true_of_le ?_
  rcases Nat.lt_or_ge b 10 with q | q
  · have h1 := h.1
    match b, q, h1 with
    | 0, _, h1 => cases h1
    | 1, _, h1 => cases h1
    | 2, _, h1 => cases h1
    | 3, _, h1 => cases h1
    | 4, _, h1 => cases h1
    | 5, _, h1 => cases h1
    | 6, _, h1 => cases h1
    | 7, _, h1 => cases h1
    | 8, _, h1 => cases h1
    | 9, _, h1 => cases h1
  · show 10 ≤ b + k; omega
theorem isH_11 : isH 11 := ⟨rfl, rfl, rfl, rfl, rfl, rfl, rfl, rfl⟩
theorem isH_29 : isH 29 := ⟨rfl, rfl, rfl, rfl, rfl, rfl, rfl, rfl⟩
theorem isH_53 : isH 53 := ⟨rfl, rfl, rfl, rfl, rfl, rfl, rfl, rfl⟩
theorem isH_125 : isH 125 := ⟨rfl, rfl, rfl, rfl, rfl, rfl, rfl, rfl⟩
theorem isH_tr {j : Nat} (h : j < 10) : isH (53 + 8 * j) := by
  match j, h with
  | 0, _ => exact ⟨rfl, rfl, rfl, rfl, rfl, rfl, rfl, rfl⟩
  | 1, _ => exact ⟨rfl, rfl, rfl, rfl, rfl, rfl, rfl, rfl⟩
  | 2, _ => exact ⟨rfl, rfl, rfl, rfl, rfl, rfl, rfl, rfl⟩
  | 3, _ => exact ⟨rfl, rfl, rfl, rfl, rfl, rfl, rfl, rfl⟩
  | 4, _ => exact ⟨rfl, rfl, rfl, rfl, rfl, rfl, rfl, rfl⟩
  | 5, _ => exact ⟨rfl, rfl, rfl, rfl, rfl, rfl, rfl, rfl⟩
  | 6, _ => exact ⟨rfl, rfl, rfl, rfl, rfl, rfl, rfl, rfl⟩
  | 7, _ => exact ⟨rfl, rfl, rfl, rfl, rfl, rfl, rfl, rfl⟩
  | 8, _ => exact ⟨rfl, rfl, rfl, rfl, rfl, rfl, rfl, rfl⟩
  | 9, _ => exact ⟨rfl, rfl, rfl, rfl, rfl, rfl, rfl, rfl⟩
theorem isH_im {j : Nat} (h : j < 2) : isH (37 + 8 * j) := by
  match j, h with
  | 0, _ => exact ⟨rfl, rfl, rfl, rfl, rfl, rfl, rfl, rfl⟩
  | 1, _ => exact ⟨rfl, rfl, rfl, rfl, rfl, rfl, rfl, rfl⟩
theorem isS_at {j : Nat} (h : j < 4) : isS (133 + 2 * j) := by
  match j, h with
  | 0, _ => exact ⟨rfl, rfl⟩
  | 1, _ => exact ⟨rfl, rfl⟩
  | 2, _ => exact ⟨rfl, rfl⟩
  | 3, _ => exact ⟨rfl, rfl⟩
theorem el_tr {j : Nat} (h : j < 10) : ([some 53, some 61, some 69, some 77, some 85, some 93, some 101, some 109, some 117, some 125] : List (Option Nat))[j]? = some (some (53 + 8 * j)) := by
  match j, h with
  | 0, _ => rfl
  | 1, _ => rfl
  | 2, _ => rfl
  | 3, _ => rfl
  | 4, _ => rfl
  | 5, _ => rfl
  | 6, _ => rfl
  | 7, _ => rfl
  | 8, _ => rfl
  | 9, _ => rfl
theorem el_im {j : Nat} (h : j < 2) : ([some 37, some 45] : List (Option Nat))[j]? = some (some (37 + 8 * j)) := by
  match j, h with
  | 0, _ => rfl
  | 1, _ => rfl
theorem el_sh {j : Nat} (h : j < 4) : ([some 133, some 135, some 137, some 139] : List (Option Nat))[j]? = some (some (133 + 2 * j)) := by
  match j, h with
  | 0, _ => rfl
  | 1, _ => rfl
  | 2, _ => rfl
  | 3, _ => rfl
theorem mi_lt {i : Int32} {n j : Nat} (h : midx i n = some j) : j < n := (midx_inv h).2.2
theorem ob {α β : Type} {o : Option α} {f : α → Option β} {x : β} (h : o.bind f = some x) : ∃ a, o = some a ∧ f a = some x := by
  cases o with
  | none => cases h
  | some a => exact ⟨a, rfl, h⟩
theorem mEnds.le {sc : List Int32} {d d' y : Nat} {q : mS} {x : mX} (h : mEnds sc d y q x) (hd : d ≤ d') : mEnds sc d' y q x := by
  have := h.deep (d' - d)
  rwa [Nat.add_sub_cancel' hd] at this
theorem mEnds.stp {d y pc pc' : Nat} {l l' : mL} {st st' : List Value} {h : mH} {x : mX} (k : Nat) (hs : ∀ h : mH, msteps [] k y (pc, l, st, h, 0, 0) = some (pc', l', st', h, 0, 0)) (e : mEnds [] d y (pc', l', st', h, 0, 0) x) : mEnds [] d y (pc, l, st, h, 0, 0) x := mEnds.steps k (hs h) e
theorem mEnds.rt {d y pc : Nat} {l : mL} {st : List Value} {h : mH} {v : Option Value} (hs : ∀ h : mH, mstep [] y (pc, l, st, h, 0, 0) = some (.inr (.inl v))) : mEnds [] d y (pc, l, st, h, 0, 0) (v, h, 0, 0) := mEnds.ret (hs h)
theorem mEnds.rti {d y pc : Nat} {l : mL} {sh : List sD} {s : sg} {e : Int32} {rv : Int32 × sg} (hrv : (e, s) = rv) (hs : ∀ h : mH, mstep [] y (pc, l, [.int e], h, 0, 0) = some (.inr (.inl (some (.int e))))) : mEnds [] d y (pc, l, [.int e], hp sh s, 0, 0) (some (.int rv.1), hp sh rv.2, 0, 0) := by
  subst hrv; exact mEnds.ret (hs _)
theorem mEnds.rtl {d y pc : Nat} {l : mL} {sh : List sD} {s : sg} {e : Int64} {rv : Int64 × sg} (hrv : (e, s) = rv) (hs : ∀ h : mH, mstep [] y (pc, l, [.long e], h, 0, 0) = some (.inr (.inl (some (.long e))))) : mEnds [] d y (pc, l, [.long e], hp sh s, 0, 0) (some (.long rv.1), hp sh rv.2, 0, 0) := by
  subst hrv; exact mEnds.ret (hs _)
section ST2
variable {d y pc i a b p n j : Nat} {z : Int} {loc : mL} {st : List Value} {sh : List sD} {σ : sg} {x : mX}
theorem t_ld {u w : Int64} (hf : mfetch y pc = some (pc, .ldiv, 1, a, b, z)) (h : ¬ w = 0) (k : mEnds [] d y (pc + 1, loc, .long (u / w) :: st, hp sh σ, 0, 0) x) : mEnds [] d y (pc, loc, .long w :: .long u :: st, hp sh σ, 0, 0) x := by
  refine mEnds.step (t_fetch hf ?_) t_mon k
  show (match (if w = 0 then none else some (Value.long (u / w))) with | some v => mgo (pc + 1) loc (v :: st) (hp sh σ) 0 0 | none => none) = _
  rw [if_neg h]; rfl
theorem t_lr {u w : Int64} (hf : mfetch y pc = some (pc, .lrem, 1, a, b, z)) (h : ¬ w = 0) (k : mEnds [] d y (pc + 1, loc, .long (u - u / w * w) :: st, hp sh σ, 0, 0) x) : mEnds [] d y (pc, loc, .long w :: .long u :: st, hp sh σ, 0, 0) x := by
  refine mEnds.step (t_fetch hf ?_) t_mon k
  show (match (if w = 0 then none else some (Value.long (u - u / w * w))) with | some v => mgo (pc + 1) loc (v :: st) (hp sh σ) 0 0 | none => none) = _
  rw [if_neg h]; rfl
theorem t_al {kd : Nat} (hf : mfetch y pc = some (pc, .arraylength, 1, a, b, z)) (hs : sh[p]? = some (.inl (kd, n))) (hk : Nat.ble kd 2 = true) (h3 : Nat.ble mn0 p = true) (k : mEnds [] d y (pc + 1, loc, .int (nI n) :: st, hp sh σ, 0, 0) x) : mEnds [] d y (pc, loc, .ref p :: st, hp sh σ, 0, 0) x := by
  refine mEnds.step (t_fetch hf ?_) t_mon k
  show (bif Nat.ble mn0 p then _ else _) = _
  rw [h3, cond_true]
  refine (hA_eq (hp_get hs)).trans ((oB_eq hk).trans ?_)
  rw [rg_len]; rfl
theorem t_sl {r : Nat} (hf : mfetch y pc = some (pc, .invokevirtual i, 3, a, 8, z)) (h1 : Nat.ble 3 r = true) (h2 : Nat.blt r 10 = true) (hcat : Nat.ble (mcat st) 8 = true) (k : mEnds [] d y (pc + 3, loc, .int (nI (roS r).length) :: st, hp sh σ, 0, 0) x) : mEnds [] d y (pc, loc, .ref r :: st, hp sh σ, 0, 0) x := by
  refine mEnds.step (t_fetch hf ?_) t_mon k
  exact (oB_eq h1).trans ((oB_eq h2).trans ((oB_eq hcat).trans rfl))
theorem t_sc {r : Nat} {ix : Int32} (hf : mfetch y pc = some (pc, .invokevirtual i, 3, a, 9, z)) (h1 : Nat.ble 3 r = true) (h2 : Nat.blt r 10 = true) (hcat : Nat.ble (mcat st) 8 = true) (hj : midx ix (roS r).length = some j) (k : mEnds [] d y (pc + 3, loc, .int ((roS r).getD j 0) :: st, hp sh σ, 0, 0) x) : mEnds [] d y (pc, loc, .int ix :: .ref r :: st, hp sh σ, 0, 0) x := by
  refine mEnds.step (t_fetch hf ?_) t_mon k
  exact (oB_eq h1).trans ((oB_eq h2).trans ((oB_eq hcat).trans ((oI_eq hj).trans rfl)))
theorem t_zr {v : Int32} {hs : mH} (hf : mfetch y pc = some (pc, .ireturn, 1, a, b, z)) (hr : mret y = some .boolean) (h : v = 0 ∨ v = 1) : mEnds [] d y (pc, loc, [.int v], hs, 0, 0) (some (.int v), hs, 0, 0) := by
  refine mEnds.ret (q := (pc, loc, [.int v], hs, 0, 0)) (t_fetch hf ?_)
  show (match mret y with | some .int => (some (Sum.inr (Sum.inl (some (Value.int v)))) : Option mO) | some .boolean => oB (decide (v = 0) || decide (v = 1)) (some (Sum.inr (Sum.inl (some (Value.int v))))) | _ => none) = _
  rw [hr]
  exact oB_eq (z01 h)
end ST2
