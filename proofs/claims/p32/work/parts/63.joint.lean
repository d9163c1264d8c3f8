/-! two programs side by side -/
def w2 {α β : Type} (o : Option α) (o' : Option β) (Q : α → β → Prop) : Prop := ∃ a b, o = some a ∧ o' = some b ∧ Q a b
section W2
variable {α β γ δ : Type} {o : Option α} {o' : Option β} {Q : α → β → Prop}
theorem w2.mk {P : α → Prop} {P' : β → Prop} (h : wp o P) (h' : wp o' P') (k : ∀ a b, P a → P' b → Q a b) : w2 o o' Q := by
  obtain ⟨a, e, p⟩ := h
  obtain ⟨b, e', p'⟩ := h'
  exact ⟨a, b, e, e', k a b p p'⟩
theorem w2.add {P : α → Prop} {P' : β → Prop} (h : w2 o o' Q) (h1 : wp o P) (h2 : wp o' P') : w2 o o' (fun a b => Q a b ∧ P a ∧ P' b) := by
  obtain ⟨a, b, e, e', q⟩ := h
  obtain ⟨a1, f, p⟩ := h1
  obtain ⟨b1, f', p'⟩ := h2
  rw [e] at f
  rw [e'] at f'
  cases f
  cases f'
  exact ⟨a, b, e, e', q, p, p'⟩
theorem w2.c {Q' : α → β → Prop} (h : w2 o o' Q) (k : ∀ a b, Q a b → Q' a b) : w2 o o' Q' := by
  obtain ⟨a, b, e, e', q⟩ := h
  exact ⟨a, b, e, e', k a b q⟩
theorem w2s {a : α} {b : β} (h : Q a b) : w2 (some a) (some b) Q := ⟨a, b, rfl, rfl, h⟩
theorem w2sl {a : γ} {f : γ → Option α} (k : w2 (f a) o' Q) : w2 ((some a).bind f) o' Q := k
theorem w2sr {a : γ} {f : γ → Option β} (k : w2 o (f a) Q) : w2 o ((some a).bind f) Q := k
theorem w2l {x : Int32} {n j : Nat} {f : Nat → Option α} (hx : x = nI j) (hj : j < n) (hn : n < 2 ^ 31) (k : w2 (f j) o' Q) : w2 ((midx x n).bind f) o' Q := by
  rw [hx, midx_nI hj hn]; exact k
theorem w2r {x : Int32} {n j : Nat} {f : Nat → Option β} (hx : x = nI j) (hj : j < n) (hn : n < 2 ^ 31) (k : w2 o (f j) Q) : w2 o ((midx x n).bind f) Q := by
  rw [hx, midx_nI hj hn]; exact k
theorem w2bl {ob : Option γ} {P : γ → Prop} {f : γ → Option α} (h : wp ob P) (k : ∀ a, P a → w2 (f a) o' Q) : w2 (ob.bind f) o' Q := by
  obtain ⟨a, rfl, p⟩ := h
  exact k a p
theorem w2br {ob : Option γ} {P : γ → Prop} {f : γ → Option β} (h : wp ob P) (k : ∀ a, P a → w2 o (f a) Q) : w2 o (ob.bind f) Q := by
  obtain ⟨a, rfl, p⟩ := h
  exact k a p
theorem w2b {ob : Option γ} {ob' : Option δ} {P : γ → δ → Prop} {f : γ → Option α} {f' : δ → Option β} (h : w2 ob ob' P) (k : ∀ a b, P a b → w2 (f a) (f' b) Q) : w2 (ob.bind f) (ob'.bind f') Q := by
  obtain ⟨a, b, rfl, rfl, p⟩ := h
  exact k a b p
theorem w2i {c : Prop} [Decidable c] {A B : Option α} {A' B' : Option β} (h1 : c → w2 A A' Q) (h2 : ¬ c → w2 B B' Q) : w2 (if c then A else B) (if c then A' else B') Q := by
  by_cases h : c
  · rw [if_pos h, if_pos h]; exact h1 h
  · rw [if_neg h, if_neg h]; exact h2 h
theorem w2il {c : Prop} [Decidable c] {A B : Option α} (h1 : c → w2 A o' Q) (h2 : ¬ c → w2 B o' Q) : w2 (if c then A else B) o' Q := by
  by_cases h : c
  · rw [if_pos h]; exact h1 h
  · rw [if_neg h]; exact h2 h
theorem w2ir {c : Prop} [Decidable c] {A B : Option β} (h1 : c → w2 o A Q) (h2 : ¬ c → w2 o B Q) : w2 o (if c then A else B) Q := by
  by_cases h : c
  · rw [if_pos h]; exact h1 h
  · rw [if_neg h]; exact h2 h
theorem w2P {P : Prop} [Decidable P] {ob ob' : Option Int32} {A B : Option α} {A' B' : Option β} (h : ob = some (if P then nI 1 else nI 0)) (h' : ob' = some (if P then nI 1 else nI 0)) (k0 : ¬ P → w2 A A' Q) (k1 : P → w2 B B' Q) : w2 (ob.bind fun v => if v = 0 then A else B) (ob'.bind fun v => if v = 0 then A' else B') Q := by
  subst h
  subst h'
  by_cases c : P
  · rw [if_pos c]
    show w2 (if nI 1 = 0 then A else B) (if nI 1 = 0 then A' else B') Q
    rw [if_neg (by decide), if_neg (by decide)]; exact k1 c
  · rw [if_neg c]
    show w2 (if nI 0 = 0 then A else B) (if nI 0 = 0 then A' else B') Q
    rw [if_pos (by decide), if_pos (by decide)]; exact k0 c
theorem w2Pl {P : Prop} [Decidable P] {ob : Option Int32} {A B : Option α} (h : ob = some (if P then nI 1 else nI 0)) (k0 : ¬ P → w2 A o' Q) (k1 : P → w2 B o' Q) : w2 (ob.bind fun v => if v = 0 then A else B) o' Q := by
  subst h
  by_cases c : P
  · rw [if_pos c]
    show w2 (if nI 1 = 0 then A else B) o' Q
    rw [if_neg (by decide)]; exact k1 c
  · rw [if_neg c]
    show w2 (if nI 0 = 0 then A else B) o' Q
    rw [if_pos (by decide)]; exact k0 c
theorem w2Pr {P : Prop} [Decidable P] {ob : Option Int32} {A B : Option β} (h : ob = some (if P then nI 1 else nI 0)) (k0 : ¬ P → w2 o A Q) (k1 : P → w2 o B Q) : w2 o (ob.bind fun v => if v = 0 then A else B) Q := by
  subst h
  by_cases c : P
  · rw [if_pos c]
    show w2 o (if nI 1 = 0 then A else B) Q
    rw [if_neg (by decide)]; exact k1 c
  · rw [if_neg c]
    show w2 o (if nI 0 = 0 then A else B) Q
    rw [if_pos (by decide)]; exact k0 c
end W2
section TESTS
variable {s t : sg} {b R r : Nat} {g : Nat → Int32} {x lo hi : Int32} {l u : Int64}
theorem within_eq : C_within x lo hi s = some (if ¬ x < lo ∧ ¬ hi < x then nI 1 else nI 0) := by
  unfold C_within
  by_cases c : x < lo
  · rw [if_pos c, if_neg (fun w => w.1 c)]
  · rw [if_neg c]
    by_cases d : hi < x
    · rw [if_pos d, if_neg (fun w => w.2 d)]
    · rw [if_neg d, if_pos ⟨c, d⟩]
theorem inP (hl : l = lo.toInt64) (hu : u = hi.toInt64) : M_in x.toInt64 l u t = some (if ¬ x < lo ∧ ¬ hi < x then nI 1 else nI 0) := by
  rw [in_eq hl hu]
  by_cases c : x < lo
  · rw [if_pos c, if_neg (fun w => w.1 c)]
  · rw [if_neg c]
    by_cases d : hi < x
    · rw [if_pos d, if_neg (fun w => w.2 d)]
    · rw [if_neg d, if_pos ⟨c, d⟩]
theorem hasRoom_P (e : s b 0 = nI R) : H_hasRoom b x s = some (if ¬ x < nI 0 ∧ x < nI R then nI 1 else nI 0) := by
  unfold H_hasRoom
  rw [e]
  by_cases c : x < nI 0
  · rw [if_pos (show x < 0 from c), if_neg (fun w => w.1 c)]
  · rw [if_neg (show ¬ x < 0 from c)]
    by_cases d : x < nI R
    · rw [if_pos d, if_pos ⟨c, d⟩]
    · rw [if_neg d, if_neg (fun w => d w.2)]
theorem hasWall_P (e : s b 0 = nI R) : H_hasWall b x s = some (if ¬ x < nI 0 ∧ x < nI R - nI 1 then nI 1 else nI 0) := by
  unfold H_hasWall
  rw [e]
  by_cases c : x < nI 0
  · rw [if_pos (show x < 0 from c), if_neg (fun w => w.1 c)]
  · rw [if_neg (show ¬ x < 0 from c)]
    by_cases d : x < nI R - nI 1
    · rw [if_pos d, if_pos ⟨c, d⟩]
    · rw [if_neg d, if_neg (fun w => d w.2)]
theorem isRoom_P (e : t 10 1 = nI R) (hR : R ≤ 6) : M_isRoom x t = some (if ¬ x < nI 0 ∧ x < nI R then nI 1 else nI 0) := by
  unfold M_isRoom
  rw [e, inP (lo := nI 0) (hi := nI R - nI 1) (by decide) rfl]
  have h : (¬ nI R - nI 1 < x) ↔ x < nI R := by
    rw [Int32.lt_iff_toInt_lt, Int32.lt_iff_toInt_lt, pk_sub_toInt (by omega) (by decide), nI_toInt (by omega)]
    omega
  by_cases c : ¬ x < nI 0 ∧ x < nI R
  · rw [if_pos c, if_pos ⟨c.1, h.mpr c.2⟩]; rfl
  · rw [if_neg c, if_neg (fun w => c ⟨w.1, h.mp w.2⟩)]; rfl
theorem isWall_P (e : t 10 1 = nI R) (hR : R ≤ 6) : M_isWall x t = some (if ¬ x < nI 0 ∧ x < nI R - nI 1 then nI 1 else nI 0) := by
  unfold M_isWall
  rw [e, inP (lo := nI 0) (hi := nI R - nI 2) (by decide) rfl]
  have h : (¬ nI R - nI 2 < x) ↔ x < nI R - nI 1 := by
    rw [Int32.lt_iff_toInt_lt, Int32.lt_iff_toInt_lt, pk_sub_toInt (by omega) (by decide), pk_sub_toInt (by omega) (by decide)]
    omega
  by_cases c : ¬ x < nI 0 ∧ x < nI R - nI 1
  · rw [if_pos c, if_pos ⟨c.1, h.mpr c.2⟩]; rfl
  · rw [if_neg c, if_neg (fun w => c ⟨w.1, h.mp w.2⟩)]; rfl
theorem room_j (hR : R ≤ 6) (h : ¬ x < nI 0 ∧ x < nI R) : ∃ j, j < R ∧ x = nI j := by
  obtain ⟨j, hj, rfl⟩ := nI_of h.1
  exact ⟨j, (nI_ltI hj (by omega)).mp h.2, rfl⟩
theorem wall_j (hR : R ≤ 6) (h : ¬ x < nI 0 ∧ x < nI R - nI 1) : ∃ j, j + 1 < R ∧ x = nI j := by
  obtain ⟨j, hj, rfl⟩ := nI_of h.1
  exact ⟨j, (nI_m1 (by omega) hj).mp h.2, rfl⟩
theorem in_j {n : Nat} (hn : n < 2 ^ 31) (h : ¬ x < nI 0 ∧ ¬ nI n < x) : ∃ j, j ≤ n ∧ x = nI j := by
  obtain ⟨j, _, h2, h3⟩ := in_nI hn h (by decide)
  exact ⟨j, h2, h3⟩
theorem hasT_eq (hr : r < 6) : M_hasTongue (nI r) t = some (if 0 < pg t 0 (18 + r) then nI 1 else nI 0) := by
  unfold M_hasTongue
  rw [nI_add, midx_nI (by omega) (by decide)]
  have e : pg t 0 (18 + r) = t 11 (18 + r) := by unfold pg; rw [Nat.zero_add]
  rw [e]
  show (if 0 < t 11 (18 + r) then some (nI 1) else some (nI 0)) = _
  by_cases c : 0 < t 11 (18 + r)
  · rw [if_pos c, if_pos c]
  · rw [if_neg c, if_neg c]
theorem pg0 {i : Nat} : pg t 0 i = t 11 i := by unfold pg; rw [Nat.zero_add]
theorem pg_up0 {k : Nat} {v : Int32} : pg (up t 11 k v) 0 = gu (pg t 0) k v := by
  have h := @pg_up t 0 k v
  rwa [Nat.zero_add] at h
theorem puts_eq {j : Nat} {x3 x4 : Int32} (hj : j < 312) : M_puts (nI 1) (nI j) x3 x4 t = some (t 11 j + x4, up t 11 j (x3 - x4)) := by
  unfold M_puts
  rw [if_neg (by decide), midx_nI hj (by decide)]
  rfl
theorem puts_0 {x2 x3 x4 : Int32} : M_puts (nI 0) x2 x3 x4 t = some (-1, t) := by
  unfold M_puts
  rw [if_pos (by decide)]
theorem exch_eq {p n j : Nat} {v : Int32} (hj : j < n) (hn : n < 1000) : C_exchange p n (nI j) v s = some (s p j, up s p j v) := by
  unfold C_exchange
  rw [midx_nI hj (by omega)]
  rfl
end TESTS
/-! a house that is changed at one place -/
section HSET
variable {s s' : sg} {b R j : Nat} {g g' : Nat → Int32} {v : Int32}
theorem HR.e (H : HR s b g R) (h : ∀ i, i < 52 → g' i = g i) : HR s b g' R := by
  have h6 := H.r6
  refine ⟨h6, H.rm, H.on.k (fun q hq => h _ (by omega)), by rw [h 49 (by decide)]; exact H.hr, by rw [h 50 (by decide)]; exact H.bu, by rw [h 51 (by decide)]; exact H.sw, H.wm.k (fun q hq => h _ (by omega)), H.ls.k (fun q hq => h _ (by omega)), H.br.k (fun q hq => h _ (by omega)), H.to.k (fun q hq => h _ (by omega)) (fun q hq => h _ (by omega)), H.wa.k (fun q hq => h _ (by omega)), H.ou.k (fun q hq => h _ (by omega))⟩
theorem HR.set1 (H : HR s b g R) (hj : j < R) : HR (up s (b + 1) j v) b (gu g (6 * 0 + j) v) R := by
  have h6 := H.r6
  have hb : up s (b + 1) j v b = s b := up_off (by omega)
  have hp : ∀ i, 1 < i → up s (b + 1) j v (b + i) = s (b + i) := fun i hi => up_off (by omega)
  refine ⟨h6, by rw [hb]; exact H.rm, by rw [hb]; exact H.on.k (fun q hq => gu_ne (by omega)), by rw [hb, gu_ne (by omega)]; exact H.hr, by rw [hb, gu_ne (by omega)]; exact H.bu, by rw [hb, gu_ne (by omega)]; exact H.sw, fun q hq => ?_, ?_, ?_, ?_, ?_, ?_⟩
  · by_cases z : q = j
    · subst z
      rw [up_eq, show 0 + q = 6 * 0 + q by omega, gu_eq]
    · rw [up_k z, gu_ne (by omega)]; exact H.wm q hq
  · rw [hp 2 (by decide)]; exact H.ls.k (fun q hq => gu_ne (by omega))
  · rw [hp 3 (by decide)]; exact H.br.k (fun q hq => gu_ne (by omega))
  · rw [hp 4 (by decide), hp 5 (by decide)]; exact H.to.k (fun q hq => gu_ne (by omega)) (fun q hq => gu_ne (by omega))
  · rw [hp 6 (by decide)]; exact H.wa.k (fun q hq => gu_ne (by omega))
  · rw [hp 7 (by decide)]; exact H.ou.k (fun q hq => gu_ne (by omega))
theorem HR.set2 (H : HR s b g R) (hj : j < R) : HR (up s (b + 2) j v) b (gu g (6 * 1 + j) v) R := by
  have h6 := H.r6
  have hb : up s (b + 2) j v b = s b := up_off (by omega)
  have hp : ∀ i, i ≠ 2 → up s (b + 2) j v (b + i) = s (b + i) := fun i hi => up_off (by omega)
  refine ⟨h6, by rw [hb]; exact H.rm, by rw [hb]; exact H.on.k (fun q hq => gu_ne (by omega)), by rw [hb, gu_ne (by omega)]; exact H.hr, by rw [hb, gu_ne (by omega)]; exact H.bu, by rw [hb, gu_ne (by omega)]; exact H.sw, ?_, fun q hq => ?_, ?_, ?_, ?_, ?_⟩
  · rw [hp 1 (by decide)]; exact H.wm.k (fun q hq => gu_ne (by omega))
  · by_cases z : q = j
    · subst z
      rw [up_eq, show 6 + q = 6 * 1 + q by omega, gu_eq]
    · rw [up_k z, gu_ne (by omega)]; exact H.ls q hq
  · rw [hp 3 (by decide)]; exact H.br.k (fun q hq => gu_ne (by omega))
  · rw [hp 4 (by decide), hp 5 (by decide)]; exact H.to.k (fun q hq => gu_ne (by omega)) (fun q hq => gu_ne (by omega))
  · rw [hp 6 (by decide)]; exact H.wa.k (fun q hq => gu_ne (by omega))
  · rw [hp 7 (by decide)]; exact H.ou.k (fun q hq => gu_ne (by omega))
theorem HR.set3 (H : HR s b g R) (hj : j < R) : HR (up s (b + 3) j v) b (gu g (6 * 2 + j) v) R := by
  have h6 := H.r6
  have hb : up s (b + 3) j v b = s b := up_off (by omega)
  have hp : ∀ i, i ≠ 3 → up s (b + 3) j v (b + i) = s (b + i) := fun i hi => up_off (by omega)
  refine ⟨h6, by rw [hb]; exact H.rm, by rw [hb]; exact H.on.k (fun q hq => gu_ne (by omega)), by rw [hb, gu_ne (by omega)]; exact H.hr, by rw [hb, gu_ne (by omega)]; exact H.bu, by rw [hb, gu_ne (by omega)]; exact H.sw, ?_, ?_, fun q hq => ?_, ?_, ?_, ?_⟩
  · rw [hp 1 (by decide)]; exact H.wm.k (fun q hq => gu_ne (by omega))
  · rw [hp 2 (by decide)]; exact H.ls.k (fun q hq => gu_ne (by omega))
  · by_cases z : q = j
    · subst z
      rw [up_eq, show 12 + q = 6 * 2 + q by omega, gu_eq]
    · rw [up_k z, gu_ne (by omega)]; exact H.br q hq
  · rw [hp 4 (by decide), hp 5 (by decide)]; exact H.to.k (fun q hq => gu_ne (by omega)) (fun q hq => gu_ne (by omega))
  · rw [hp 6 (by decide)]; exact H.wa.k (fun q hq => gu_ne (by omega))
  · rw [hp 7 (by decide)]; exact H.ou.k (fun q hq => gu_ne (by omega))
/-- the tongue of room j: its kind -/
theorem HR.set4 {k : Nat} (H : HR s b g R) (hj : j < R) (hk : k ≤ 3) (hm : s (b + 5) j = g (24 + j)) : HR (up s (b + 4) j (nI k)) b (gu g (18 + j) (nI k + nI 1)) R := by
  have h6 := H.r6
  have hb : up s (b + 4) j (nI k) b = s b := up_off (by omega)
  have hp : ∀ i, i ≠ 4 → up s (b + 4) j (nI k) (b + i) = s (b + i) := fun i hi => up_off (by omega)
  refine ⟨h6, by rw [hb]; exact H.rm, by rw [hb]; exact H.on.k (fun q hq => gu_ne (by omega)), by rw [hb, gu_ne (by omega)]; exact H.hr, by rw [hb, gu_ne (by omega)]; exact H.bu, by rw [hb, gu_ne (by omega)]; exact H.sw, ?_, ?_, ?_, fun q hq => ?_, ?_, ?_⟩
  · rw [hp 1 (by decide)]; exact H.wm.k (fun q hq => gu_ne (by omega))
  · rw [hp 2 (by decide)]; exact H.ls.k (fun q hq => gu_ne (by omega))
  · rw [hp 3 (by decide)]; exact H.br.k (fun q hq => gu_ne (by omega))
  · rw [hp 5 (by decide)]
    obtain ⟨z1, z2, z3⟩ := H.to q hq
    by_cases z : q = j
    · subst z
      rw [up_eq, gu_eq, gu_ne (by omega)]
      refine ⟨⟨k + 1, by omega, nI_add k 1, ?_⟩, z2, fun _ => hm⟩
      rw [pk_sub (by omega)]; rfl
    · rw [up_k z, gu_ne (by omega), gu_ne (by omega)]
      exact ⟨z1, z2, z3⟩
  · rw [hp 6 (by decide)]; exact H.wa.k (fun q hq => gu_ne (by omega))
  · rw [hp 7 (by decide)]; exact H.ou.k (fun q hq => gu_ne (by omega))
/-- its mark -/
theorem HR.set5 {c : Nat} (H : HR s b g R) (hj : j < R) (hc : c ≤ 99) : HR (up s (b + 5) j (nI c)) b (gu g (24 + j) (nI c)) R := by
  have h6 := H.r6
  have hb : up s (b + 5) j (nI c) b = s b := up_off (by omega)
  have hp : ∀ i, i ≠ 5 → up s (b + 5) j (nI c) (b + i) = s (b + i) := fun i hi => up_off (by omega)
  refine ⟨h6, by rw [hb]; exact H.rm, by rw [hb]; exact H.on.k (fun q hq => gu_ne (by omega)), by rw [hb, gu_ne (by omega)]; exact H.hr, by rw [hb, gu_ne (by omega)]; exact H.bu, by rw [hb, gu_ne (by omega)]; exact H.sw, ?_, ?_, ?_, fun q hq => ?_, ?_, ?_⟩
  · rw [hp 1 (by decide)]; exact H.wm.k (fun q hq => gu_ne (by omega))
  · rw [hp 2 (by decide)]; exact H.ls.k (fun q hq => gu_ne (by omega))
  · rw [hp 3 (by decide)]; exact H.br.k (fun q hq => gu_ne (by omega))
  · rw [hp 4 (by decide)]
    obtain ⟨z1, z2, z3⟩ := H.to q hq
    by_cases z : q = j
    · subst z
      rw [up_eq, gu_eq, gu_ne (by omega)]
      exact ⟨z1, ⟨c, hc, rfl⟩, fun _ => rfl⟩
    · rw [up_k z, gu_ne (by omega), gu_ne (by omega)]
      exact ⟨z1, z2, z3⟩
  · rw [hp 6 (by decide)]; exact H.wa.k (fun q hq => gu_ne (by omega))
  · rw [hp 7 (by decide)]; exact H.ou.k (fun q hq => gu_ne (by omega))
theorem HR.set6 (H : HR s b g R) (hj : j + 1 < R) (hv : v = g' (36 + j) + nI 2) (hg : ∀ i, i ≠ 36 + j → g' i = g i) : HR (up s (b + 6) j v) b g' R := by
  have h6 := H.r6
  have hb : up s (b + 6) j v b = s b := up_off (by omega)
  have hp : ∀ i, i ≠ 6 → up s (b + 6) j v (b + i) = s (b + i) := fun i hi => up_off (by omega)
  refine ⟨h6, by rw [hb]; exact H.rm, by rw [hb]; exact H.on.k (fun q hq => hg _ (by omega)), by rw [hb, hg _ (by omega)]; exact H.hr, by rw [hb, hg _ (by omega)]; exact H.bu, by rw [hb, hg _ (by omega)]; exact H.sw, ?_, ?_, ?_, ?_, fun q hq => ?_, ?_⟩
  · rw [hp 1 (by decide)]; exact H.wm.k (fun q hq => hg _ (by omega))
  · rw [hp 2 (by decide)]; exact H.ls.k (fun q hq => hg _ (by omega))
  · rw [hp 3 (by decide)]; exact H.br.k (fun q hq => hg _ (by omega))
  · rw [hp 4 (by decide), hp 5 (by decide)]; exact H.to.k (fun q hq => hg _ (by omega)) (fun q hq => hg _ (by omega))
  · by_cases z : q = j
    · subst z
      rw [up_eq]; exact hv
    · rw [up_k z, hg _ (by omega)]; exact H.wa q hq
  · rw [hp 7 (by decide)]; exact H.ou.k (fun q hq => hg _ (by omega))
theorem HR.set7 (H : HR s b g R) (hj : j < 8) (hv : v = g' (41 + j) + nI 10) (hg : ∀ i, i ≠ 41 + j → g' i = g i) : HR (up s (b + 7) j v) b g' R := by
  have h6 := H.r6
  have hb : up s (b + 7) j v b = s b := up_off (by omega)
  have hp : ∀ i, i ≠ 7 → up s (b + 7) j v (b + i) = s (b + i) := fun i hi => up_off (by omega)
  refine ⟨h6, by rw [hb]; exact H.rm, by rw [hb]; exact H.on.k (fun q hq => hg _ (by omega)), by rw [hb, hg _ (by omega)]; exact H.hr, by rw [hb, hg _ (by omega)]; exact H.bu, by rw [hb, hg _ (by omega)]; exact H.sw, ?_, ?_, ?_, ?_, ?_, fun q hq => ?_⟩
  · rw [hp 1 (by decide)]; exact H.wm.k (fun q hq => hg _ (by omega))
  · rw [hp 2 (by decide)]; exact H.ls.k (fun q hq => hg _ (by omega))
  · rw [hp 3 (by decide)]; exact H.br.k (fun q hq => hg _ (by omega))
  · rw [hp 4 (by decide), hp 5 (by decide)]; exact H.to.k (fun q hq => hg _ (by omega)) (fun q hq => hg _ (by omega))
  · rw [hp 6 (by decide)]; exact H.wa.k (fun q hq => hg _ (by omega))
  · by_cases z : q = j
    · subst z
      rw [up_eq]; exact hv
    · rw [up_k z, hg _ (by omega)]; exact H.ou q hq
/-- the tongue is taken away -/
theorem HR.take (H : HR s b g R) (hj : j < R) : HR (up (up s (b + 4) j (-1)) b 1 (s b 1 &&& ((nI 1 <<< (nI j &&& 31)) ^^^ (-1)))) b (gu (gu (gu g (18 + j) (nI 0)) (24 + j) (nI 0)) (30 + j) (nI 0)) R := by
  have h6 := H.r6
  obtain ⟨m, h1, h2, h3⟩ := H.on
  have hne : ∀ i, i ≠ 18 + j → i ≠ 24 + j → i ≠ 30 + j → gu (gu (gu g (18 + j) (nI 0)) (24 + j) (nI 0)) (30 + j) (nI 0) i = g i := fun i q1 q2 q3 => by rw [gu_ne q3, gu_ne q2, gu_ne q1]
  have hb : ∀ k, k ≠ 1 → up (up s (b + 4) j (-1)) b 1 (s b 1 &&& ((nI 1 <<< (nI j &&& 31)) ^^^ (-1))) b k = s b k := fun k hk => by rw [up_k hk, up_p (by omega)]
  have hp : ∀ i, 1 ≤ i → i ≠ 4 → up (up s (b + 4) j (-1)) b 1 (s b 1 &&& ((nI 1 <<< (nI j &&& 31)) ^^^ (-1))) (b + i) = s (b + i) := fun i h0 hi => by rw [up_off (by omega), up_off (by omega)]
  have h4 : up (up s (b + 4) j (-1)) b 1 (s b 1 &&& ((nI 1 <<< (nI j &&& 31)) ^^^ (-1))) (b + 4) = up s (b + 4) j (-1) (b + 4) := up_off (by omega)
  refine ⟨h6, (hb 0 (by decide)).trans H.rm, ?_, ?_, ?_, ?_, ?_, ?_, ?_, fun q hq => ?_, ?_, ?_⟩
  · rw [up_eq, h2, bt_c m (p64 h6 h1) j (by omega)]
    refine ⟨clr m j, clr_lt R (by omega) m h1 j hj, rfl, fun q hq => ?_⟩
    rw [clr_bt m (p64 h6 h1) j (by omega) q (by omega)]
    by_cases z : q = j
    · subst z
      rw [if_pos rfl, gu_eq]
    · rw [if_neg z, hne _ (by omega) (by omega) (by omega)]; exact h3 q hq
  · rw [hb 2 (by decide), hne _ (by omega) (by omega) (by omega)]; exact H.hr
  · rw [hb 3 (by decide), hne _ (by omega) (by omega) (by omega)]; exact H.bu
  · rw [hb 4 (by decide), hne _ (by omega) (by omega) (by omega)]; exact H.sw
  · rw [hp 1 (by decide) (by decide)]; exact H.wm.k (fun q hq => hne _ (by omega) (by omega) (by omega))
  · rw [hp 2 (by decide) (by decide)]; exact H.ls.k (fun q hq => hne _ (by omega) (by omega) (by omega))
  · rw [hp 3 (by decide) (by decide)]; exact H.br.k (fun q hq => hne _ (by omega) (by omega) (by omega))
  · rw [h4, hp 5 (by decide) (by decide)]
    obtain ⟨z1, z2, z3⟩ := H.to q hq
    by_cases z : q = j
    · subst z
      rw [up_eq, gu_ne (by omega), gu_ne (by omega), gu_eq, gu_ne (by omega), gu_eq]
      exact ⟨⟨0, by decide, rfl, by decide⟩, ⟨0, by decide, rfl⟩, fun w => absurd w (by decide)⟩
    · rw [up_k z, hne _ (by omega) (by omega) (by omega), hne _ (by omega) (by omega) (by omega)]
      exact ⟨z1, z2, z3⟩
  · rw [hp 6 (by decide) (by decide)]; exact H.wa.k (fun q hq => hne _ (by omega) (by omega) (by omega))
  · rw [hp 7 (by decide) (by decide)]; exact H.ou.k (fun q hq => hne _ (by omega) (by omega) (by omega))
end HSET
