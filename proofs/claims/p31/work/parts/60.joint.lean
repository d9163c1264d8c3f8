section Q60
/-! a house as a page of numbers -/
def gu (g : Nat → Int32) (i : Nat) (v : Int32) : Nat → Int32 := fun j => if j = i then v else g j
theorem gu_eq {g : Nat → Int32} {i : Nat} {v : Int32} : gu g i v i = v := if_pos rfl
theorem gu_ne {g : Nat → Int32} {i j : Nat} {v : Int32} (h : j ≠ i) : gu g i v j = g j := if_neg h
theorem gu_self {g : Nat → Int32} {i : Nat} : gu g i (g i) = g := by
  funext j
  unfold gu
  by_cases h : j = i
  · rw [if_pos h, h]
  · rw [if_neg h]
def lowV (g : Nat → Int32) (r : Nat) : Int32 := if g (18 + r) - nI 1 = 0 then g (24 + r) - nI 2 else if g (18 + r) - nI 1 = nI 1 then g (24 + r) - nI 1 else g (24 + r) - nI 5
def highV (g : Nat → Int32) (r : Nat) : Int32 := if g (18 + r) - nI 1 = nI 1 then g (24 + r) + nI 1 else if g (18 + r) - nI 1 = nI 3 then g (24 + r) + nI 4 else g (24 + r) + nI 2
def newV (g : Nat → Int32) (r : Nat) : Int32 := if lowV g r < g r then (if g r < highV g r then g (30 + r) else nI 0) else nI 1
def incV (c : Int32) : Int32 := if c < nI 9999 then c + nI 1 else c
def swV (g : Nat → Int32) (r : Nat) : Nat → Int32 := if 0 < g (18 + r) then (if newV g r = g (30 + r) then g else gu (gu g 51 (incV (g 51))) (30 + r) (newV g r)) else g
def swN (g : Nat → Int32) : Nat → Nat → Nat → Int32
  | 0, _ => g
  | n + 1, r => swN (swV g r) n (r + 1)
def outW (g : Nat → Int32) (R r : Nat) : Int32 := if r + 1 < R then ((g (36 + r) + nI 2) * (g r - g (r + 1))) / nI 10 else nI 0
def innW (g : Nat → Int32) (R : Nat) : Nat → Int32
  | 0 => nI 0
  | r + 1 => outW g R r
def burnsV (g : Nat → Int32) (x2 : Int32) (r : Nat) : Prop := g (30 + r) = nI 1 ∧ x2 = 0
def bnV (g : Nat → Int32) (x2 : Int32) (r : Nat) : Int32 := if g (30 + r) = nI 1 ∧ x2 = 0 then g (12 + r) else nI 0
def lossV (g : Nat → Int32) (x1 : Int32) (r : Nat) : Int32 := (g (6 + r) * (g r - x1)) / nI 10
def clV (v : Int32) : Int32 := if v < 0 then nI 0 else if nI 99 < v then nI 99 else v
def warmV (g : Nat → Int32) (R : Nat) (x1 x2 : Int32) (r : Nat) : Int32 := clV ((((g r + innW g R r) - outW g R r) - lossV g x1 r) + bnV g x2 r)
def brV (g : Nat → Int32) (x2 : Int32) : Nat → Nat → Int32 → Int32
  | 0, _, c => c
  | n + 1, r, c => brV g x2 n (r + 1) (if g (30 + r) = nI 1 ∧ x2 = 0 then incV c else c)
/-- an hour half way: rooms below r are through -/
def midV (g : Nat → Int32) (R : Nat) (x1 x2 : Int32) (r : Nat) (c : Int32) : Nat → Int32 := fun i => if i < r then warmV g R x1 x2 i else if i = 50 then c else g i
def passV (R : Nat) (x1 x2 : Int32) (g : Nat → Int32) : Nat → Int32 := gu (midV g R x1 x2 R (brV g x2 R 0 (g 50))) 49 (g 49 + nI 1)
def hourV (R : Nat) (x1 x2 : Int32) (g : Nat → Int32) : Nat → Int32 := passV R x1 x2 (swN g R 0)
def skyV (g : Nat → Int32) : Int32 := g (41 + (g 49).toInt.toNat % 8) + nI 10
def nextV (R : Nat) (g : Nat → Int32) : Nat → Int32 := hourV R (skyV g) (nI 0) g
def hoursV (R : Nat) : Nat → (Nat → Int32) → Nat → Int32
  | 0, g => g
  | n + 1, g => hoursV R n (nextV R g)
/-! bits of the switched rooms -/
theorem bt_sh : ∀ m : Nat, m < 64 → ∀ r : Nat, r < 6 → ((nI m >>> (nI r &&& 31)) &&& nI 1) = nI (m / 2 ^ r % 2) := by decide +kernel
def flp (m r : Nat) : Nat := if m / 2 ^ r % 2 = 0 then m + 2 ^ r else m - 2 ^ r
theorem bt_x : ∀ m : Nat, m < 64 → ∀ r : Nat, r < 6 → (nI m ^^^ (nI 1 <<< (nI r &&& 31))) = nI (flp m r) := by decide +kernel
theorem flp_lt : ∀ R : Nat, R < 7 → ∀ m : Nat, m < 2 ^ R → ∀ r : Nat, r < R → flp m r < 2 ^ R := by decide +kernel
theorem flp_bt : ∀ m : Nat, m < 64 → ∀ r : Nat, r < 6 → ∀ q : Nat, q < 6 → flp m r / 2 ^ q % 2 = if q = r then 1 - m / 2 ^ r % 2 else m / 2 ^ q % 2 := by decide +kernel
def clr (m r : Nat) : Nat := if m / 2 ^ r % 2 = 0 then m else m - 2 ^ r
theorem bt_c : ∀ m : Nat, m < 64 → ∀ r : Nat, r < 6 → (nI m &&& ((nI 1 <<< (nI r &&& 31)) ^^^ (-1))) = nI (clr m r) := by decide +kernel
theorem clr_lt : ∀ R : Nat, R < 7 → ∀ m : Nat, m < 2 ^ R → ∀ r : Nat, r < R → clr m r < 2 ^ R := by decide +kernel
theorem clr_bt : ∀ m : Nat, m < 64 → ∀ r : Nat, r < 6 → ∀ q : Nat, q < 6 → clr m r / 2 ^ q % 2 = if q = r then 0 else m / 2 ^ q % 2 := by decide +kernel
theorem p64 {R m : Nat} (hR : R ≤ 6) (hm : m < 2 ^ R) : m < 64 := by
  have h : 2 ^ R ≤ 2 ^ 6 := Nat.pow_le_pow_right (by decide) hR
  have e : 2 ^ 6 = 64 := by decide
  omega
theorem add_nI0 (x : Int32) : x + nI 0 = x := by rw [nI_0, Int32.add_zero]
theorem i32_ne {a b : Nat} (h : a ≠ b) (ha : a < 2 ^ 31) (hb : b < 2 ^ 31) : ¬ nI a = nI b := fun w => h ((nI_eq ha hb).mp w)
/-! the class's house holds a page -/
def ON (x : Int32) (g : Nat → Int32) (R : Nat) : Prop := ∃ m : Nat, m < 2 ^ R ∧ x = nI m ∧ ∀ r, r < R → g (30 + r) = nI (m / 2 ^ r % 2)
def CN (x y : Int32) : Prop := x = y ∧ ∃ c : Nat, c ≤ 9999 ∧ y = nI c
def RM (a g : Nat → Int32) (o R : Nat) : Prop := ∀ r, r < R → a r = g (o + r)
def TO (a m g : Nat → Int32) (R : Nat) : Prop := ∀ r, r < R → (∃ k : Nat, k ≤ 4 ∧ g (18 + r) = nI k ∧ a r = nI k - nI 1) ∧ (∃ c : Nat, c ≤ 99 ∧ g (24 + r) = nI c) ∧ (0 < g (18 + r) → m r = g (24 + r))
def WA (a g : Nat → Int32) (R : Nat) : Prop := ∀ w, w + 1 < R → a w = g (36 + w) + nI 2
def OU (a g : Nat → Int32) : Prop := ∀ i, i < 8 → a i = g (41 + i) + nI 10
def HR (s : sg) (b : Nat) (g : Nat → Int32) (R : Nat) : Prop := R ≤ 6 ∧ s b 0 = nI R ∧ ON (s b 1) g R ∧ s b 2 = g 49 ∧ CN (s b 3) (g 50) ∧ CN (s b 4) (g 51) ∧ RM (s (b + 1)) g 0 R ∧ RM (s (b + 2)) g 6 R ∧ RM (s (b + 3)) g 12 R ∧ TO (s (b + 4)) (s (b + 5)) g R ∧ WA (s (b + 6)) g R ∧ OU (s (b + 7)) g
section VAL
variable {s s' : sg} {b R r o : Nat} {g g' a m : Nat → Int32} {x x1 x2 x3 y : Int32}
theorem ON.k (h : ON x g R) (e : ∀ r, r < R → g' (30 + r) = g (30 + r)) : ON x g' R := by
  obtain ⟨m, h1, h2, h3⟩ := h
  exact ⟨m, h1, h2, fun r hr => (e r hr).trans (h3 r hr)⟩
theorem RM.k (h : RM a g o R) (e : ∀ r, r < R → g' (o + r) = g (o + r)) : RM a g' o R := fun r hr => (h r hr).trans (e r hr).symm
theorem TO.k (h : TO a m g R) (e : ∀ r, r < R → g' (18 + r) = g (18 + r)) (f : ∀ r, r < R → g' (24 + r) = g (24 + r)) : TO a m g' R := fun r hr => by
  obtain ⟨⟨k, k1, k2, k3⟩, ⟨c, c1, c2⟩, h3⟩ := h r hr
  refine ⟨⟨k, k1, (e r hr).trans k2, k3⟩, ⟨c, c1, (f r hr).trans c2⟩, fun q => ?_⟩
  rw [e r hr] at q
  exact (h3 q).trans (f r hr).symm
theorem WA.k (h : WA a g R) (e : ∀ r, r + 1 < R → g' (36 + r) = g (36 + r)) : WA a g' R := fun r hr => by rw [e r hr]; exact h r hr
theorem OU.k (h : OU a g) (e : ∀ r, r < 8 → g' (41 + r) = g (41 + r)) : OU a g' := fun r hr => by rw [e r hr]; exact h r hr
theorem HR.r6 (H : HR s b g R) : R ≤ 6 := H.1
theorem HR.rm (H : HR s b g R) : s b 0 = nI R := H.2.1
theorem HR.on (H : HR s b g R) : ON (s b 1) g R := H.2.2.1
theorem HR.hr (H : HR s b g R) : s b 2 = g 49 := H.2.2.2.1
theorem HR.bu (H : HR s b g R) : CN (s b 3) (g 50) := H.2.2.2.2.1
theorem HR.sw (H : HR s b g R) : CN (s b 4) (g 51) := H.2.2.2.2.2.1
theorem HR.wm (H : HR s b g R) : RM (s (b + 1)) g 0 R := H.2.2.2.2.2.2.1
theorem HR.ls (H : HR s b g R) : RM (s (b + 2)) g 6 R := H.2.2.2.2.2.2.2.1
theorem HR.br (H : HR s b g R) : RM (s (b + 3)) g 12 R := H.2.2.2.2.2.2.2.2.1
theorem HR.to (H : HR s b g R) : TO (s (b + 4)) (s (b + 5)) g R := H.2.2.2.2.2.2.2.2.2.1
theorem HR.wa (H : HR s b g R) : WA (s (b + 6)) g R := H.2.2.2.2.2.2.2.2.2.2.1
theorem HR.ou (H : HR s b g R) : OU (s (b + 7)) g := H.2.2.2.2.2.2.2.2.2.2.2
theorem HR.w (H : HR s b g R) (hr : r < R) : s (b + 1) r = g r := by
  have h := H.wm r hr
  rwa [Nat.zero_add] at h
/-- the same house elsewhere -/
theorem HR.cp {c : Nat} (H : HR s c g R) (e0 : ∀ k, k < 5 → s' b k = s c k) (e : ∀ i k, 1 ≤ i → i ≤ 7 → k < hN i → s' (b + i) k = s (c + i) k) : HR s' b g R := by
  have h6 := H.r6
  refine ⟨H.r6, (e0 0 (by decide)).trans H.rm, ?_, (e0 2 (by decide)).trans H.hr, ?_, ?_, fun r hr => ?_, fun r hr => ?_, fun r hr => ?_, fun r hr => ?_, fun r hr => ?_, fun r hr => ?_⟩
  · rw [e0 1 (by decide)]; exact H.on
  · rw [e0 3 (by decide)]; exact H.bu
  · rw [e0 4 (by decide)]; exact H.sw
  · rw [e 1 r (by decide) (by decide) (by show r < 6; omega)]; exact H.wm r hr
  · rw [e 2 r (by decide) (by decide) (by show r < 6; omega)]; exact H.ls r hr
  · rw [e 3 r (by decide) (by decide) (by show r < 6; omega)]; exact H.br r hr
  · rw [e 4 r (by decide) (by decide) (by show r < 6; omega), e 5 r (by decide) (by decide) (by show r < 6; omega)]; exact H.to r hr
  · rw [e 6 r (by decide) (by decide) (by show r < 5; omega)]; exact H.wa r hr
  · rw [e 7 r (by decide) (by decide) (by show r < 8; omega)]; exact H.ou r hr
theorem HR.off (H : HR s b g R) (e : ∀ p, b ≤ p → p ≤ b + 7 → s' p = s p) : HR s' b g R :=
  H.cp (fun k _ => by rw [e b (by omega) (by omega)]) (fun i k _ _ _ => by rw [e (b + i) (by omega) (by omega)])
theorem HR.bit (H : HR s b g R) (hr : r < R) : g (30 + r) = nI 0 ∨ g (30 + r) = nI 1 := by
  obtain ⟨m, h1, h2, h3⟩ := H.on
  rcases Nat.mod_two_eq_zero_or_one (m / 2 ^ r) with q | q
  · exact Or.inl ((h3 r hr).trans (by rw [q]))
  · exact Or.inr ((h3 r hr).trans (by rw [q]))
theorem wbP {β : Type} {oo : Option Int32} {P : Prop} [Decidable P] {A B : Option β} {Q : β → Prop} (h : oo = some (if P then nI 1 else nI 0)) (k0 : ¬ P → wp A Q) (k1 : P → wp B Q) : wp (oo.bind fun v => if v = 0 then A else B) Q := by
  subst h
  by_cases c : P
  · rw [if_pos c]
    show wp (if nI 1 = 0 then A else B) Q
    rw [if_neg (by decide)]; exact k1 c
  · rw [if_neg c]
    show wp (if nI 0 = 0 then A else B) Q
    rw [if_pos (by decide)]; exact k0 c
theorem isOn_eq (H : HR s b g R) (hr : r < R) : H_isOn b (nI r) s = some (if g (30 + r) = nI 1 then nI 1 else nI 0) := by
  obtain ⟨m, h1, h2, h3⟩ := H.on
  have h6 := H.r6
  unfold H_isOn
  rw [h2, bt_sh m (p64 h6 h1) r (by omega), ← h3 r hr]
  by_cases c : g (30 + r) = nI 1
  · rw [if_pos c, if_pos c]
  · rw [if_neg c, if_neg c]
theorem hasTongue_eq (H : HR s b g R) (hr : r < R) : H_hasTongue b (nI r) s = some (if 0 < g (18 + r) then nI 1 else nI 0) := by
  have h6 := H.r6
  obtain ⟨⟨k, k1, k2, k3⟩, _⟩ := H.to r hr
  unfold H_hasTongue
  rw [midx_nI (show r < 6 by omega) (by decide)]
  show (if s (b + 4) r = -1 then some (nI 0) else some (nI 1)) = _
  rw [k2, k3]
  have hk : k = 0 ∨ k = 1 ∨ k = 2 ∨ k = 3 ∨ k = 4 := by omega
  rcases hk with rfl | rfl | rfl | rfl | rfl <;> decide
theorem lowOf_eq (H : HR s b g R) (hr : r < R) (ht : 0 < g (18 + r)) : H_lowOf b (nI r) s = some (lowV g r) := by
  have h6 := H.r6
  obtain ⟨⟨k, k1, k2, k3⟩, ⟨c, c1, c2⟩, h3⟩ := H.to r hr
  unfold H_lowOf lowV
  rw [midx_nI (show r < 6 by omega) (by decide)]
  show (midx (s (b + 4) r) 4).bind (fun j3 => some (s (b + 5) r + (roA 1).getD j3 0)) = _
  rw [h3 ht, k3, k2]
  rw [k2] at ht
  have hk : k = 0 ∨ k = 1 ∨ k = 2 ∨ k = 3 ∨ k = 4 := by omega
  rcases hk with rfl | rfl | rfl | rfl | rfl
  · exact absurd ht (by decide)
  · rw [show midx (nI 1 - nI 1) 4 = some 0 from by decide, if_pos (by decide)]
    show some (g (24 + r) + (-2)) = _
    rw [Int32.sub_eq_add_neg]; rfl
  · rw [show midx (nI 2 - nI 1) 4 = some 1 from by decide, if_neg (by decide), if_pos (by decide)]
    show some (g (24 + r) + (-1)) = _
    rw [Int32.sub_eq_add_neg]; rfl
  · rw [show midx (nI 3 - nI 1) 4 = some 2 from by decide, if_neg (by decide), if_neg (by decide)]
    show some (g (24 + r) + (-5)) = _
    rw [Int32.sub_eq_add_neg]; rfl
  · rw [show midx (nI 4 - nI 1) 4 = some 3 from by decide, if_neg (by decide), if_neg (by decide)]
    show some (g (24 + r) + (-5)) = _
    rw [Int32.sub_eq_add_neg]; rfl
theorem highOf_eq (H : HR s b g R) (hr : r < R) (ht : 0 < g (18 + r)) : H_highOf b (nI r) s = some (highV g r) := by
  have h6 := H.r6
  obtain ⟨⟨k, k1, k2, k3⟩, ⟨c, c1, c2⟩, h3⟩ := H.to r hr
  unfold H_highOf highV
  rw [midx_nI (show r < 6 by omega) (by decide)]
  show (midx (s (b + 4) r) 4).bind (fun j3 => some (s (b + 5) r + (roA 2).getD j3 0)) = _
  rw [h3 ht, k3, k2]
  rw [k2] at ht
  have hk : k = 0 ∨ k = 1 ∨ k = 2 ∨ k = 3 ∨ k = 4 := by omega
  rcases hk with rfl | rfl | rfl | rfl | rfl
  · exact absurd ht (by decide)
  · rw [show midx (nI 1 - nI 1) 4 = some 0 from by decide, if_neg (by decide), if_neg (by decide)]; rfl
  · rw [show midx (nI 2 - nI 1) 4 = some 1 from by decide, if_pos (by decide)]; rfl
  · rw [show midx (nI 3 - nI 1) 4 = some 2 from by decide, if_neg (by decide), if_neg (by decide)]; rfl
  · rw [show midx (nI 4 - nI 1) 4 = some 3 from by decide, if_neg (by decide), if_pos (by decide)]; rfl
theorem lohi : ∀ c : Nat, c < 100 → ∀ k : Nat, k < 5 → 0 < k → (if nI k - nI 1 = 0 then nI c - nI 2 else if nI k - nI 1 = nI 1 then nI c - nI 1 else nI c - nI 5) < (if nI k - nI 1 = nI 1 then nI c + nI 1 else if nI k - nI 1 = nI 3 then nI c + nI 4 else nI c + nI 2) := by decide +kernel
theorem low_high (H : HR s b g R) (hr : r < R) (ht : 0 < g (18 + r)) : lowV g r < highV g r := by
  obtain ⟨⟨k, k1, k2, k3⟩, ⟨c, c1, c2⟩, h3⟩ := H.to r hr
  unfold lowV highV
  rw [k2] at ht ⊢
  rw [c2]
  refine lohi c (by omega) k (by omega) ?_
  have h0 : (0 : Int32) = nI 0 := rfl
  rw [h0, nI_ltI (by decide) (by omega)] at ht
  exact ht
theorem inc_eq (h : CN x y) : (if x + nI 1 < nI 9999 then x + nI 1 else nI 9999) = incV y ∧ CN (incV y) (incV y) := by
  obtain ⟨rfl, c, hc, rfl⟩ := h
  unfold incV
  rw [nI_add]
  by_cases h1 : c < 9999
  · rw [if_pos ((nI_ltI (by omega) (by decide)).mpr h1)]
    refine ⟨?_, rfl, c + 1, by omega, rfl⟩
    by_cases h2 : c + 1 < 9999
    · rw [if_pos ((nI_ltI (by omega) (by decide)).mpr h2)]
    · rw [if_neg (fun w => h2 ((nI_ltI (by omega) (by decide)).mp w)), show c + 1 = 9999 by omega]
  · rw [if_neg (fun w => h1 ((nI_ltI (by omega) (by decide)).mp w))]
    refine ⟨?_, rfl, c, hc, rfl⟩
    rw [if_neg (fun w => by have := (nI_ltI (by omega) (by decide)).mp w; omega), show c = 9999 by omega]
/-- one tongue switches over -/
theorem HR.flip (H : HR s b g R) (hr : r < R) (y : Int32) (hy : g (30 + r) = nI 0 ∧ y = nI 1 ∨ g (30 + r) = nI 1 ∧ y = nI 0) :
    HR (up (up s b 1 (s b 1 ^^^ (nI 1 <<< (nI r &&& 31)))) b 4 (incV (g 51))) b (gu (gu g 51 (incV (g 51))) (30 + r) y) R := by
  obtain ⟨m, h1, h2, h3⟩ := H.on
  have h6 := H.r6
  have hne : ∀ k, k ≠ 51 → k ≠ 30 + r → gu (gu g 51 (incV (g 51))) (30 + r) y k = g k := fun k q1 q2 => by rw [gu_ne q2, gu_ne q1]
  have hs : ∀ p k, ¬ (p = b ∧ (k = 1 ∨ k = 4)) → up (up s b 1 (s b 1 ^^^ (nI 1 <<< (nI r &&& 31)))) b 4 (incV (g 51)) p k = s p k := fun p k q => by
    rw [up, if_neg (fun w => q ⟨w.1, Or.inr w.2⟩), up, if_neg (fun w => q ⟨w.1, Or.inl w.2⟩)]
  have hp : ∀ i, 1 ≤ i → up (up s b 1 (s b 1 ^^^ (nI 1 <<< (nI r &&& 31)))) b 4 (incV (g 51)) (b + i) = s (b + i) := fun i hi => by
    funext k; exact hs _ _ (fun w => by omega)
  refine ⟨h6, (hs b 0 (by omega)).trans H.rm, ?_, (hs b 2 (by omega)).trans (H.hr.trans (hne 49 (by decide) (by omega)).symm), ?_, ?_, ?_, ?_, ?_, ?_, ?_, ?_⟩
  · have e : up (up s b 1 (s b 1 ^^^ (nI 1 <<< (nI r &&& 31)))) b 4 (incV (g 51)) b 1 = nI (flp m r) := by
      rw [up_k (by decide), up_eq, h2, bt_x m (p64 h6 h1) r (by omega)]
    rw [e]
    refine ⟨flp m r, flp_lt R (by omega) m h1 r hr, rfl, fun q hq => ?_⟩
    rw [flp_bt m (p64 h6 h1) r (by omega) q (by omega)]
    by_cases c : q = r
    · subst c
      rw [if_pos rfl, gu_eq]
      have h4 := h3 q hr
      rcases hy with ⟨z1, rfl⟩ | ⟨z1, rfl⟩
      · rw [z1, nI_eq (by decide) (by omega)] at h4
        rw [← h4]
      · rw [z1, nI_eq (by decide) (by omega)] at h4
        rw [← h4]
    · rw [if_neg c, hne _ (by omega) (by omega)]; exact h3 q hq
  · rw [hs b 3 (by omega), hne 50 (by decide) (by omega)]; exact H.bu
  · rw [up_eq, gu_ne (by omega), gu_eq]; exact (inc_eq H.sw).2
  · rw [hp 1 (by decide)]; exact H.wm.k (fun q hq => hne _ (by omega) (by omega))
  · rw [hp 2 (by decide)]; exact H.ls.k (fun q hq => hne _ (by omega) (by omega))
  · rw [hp 3 (by decide)]; exact H.br.k (fun q hq => hne _ (by omega) (by omega))
  · rw [hp 4 (by decide), hp 5 (by decide)]; exact H.to.k (fun q hq => hne _ (by omega) (by omega)) (fun q hq => hne _ (by omega) (by omega))
  · rw [hp 6 (by decide)]; exact H.wa.k (fun q hq => hne _ (by omega) (by omega))
  · rw [hp 7 (by decide)]; exact H.ou.k (fun q hq => hne _ (by omega) (by omega))
theorem X_sw : ∀ (n r fu : Nat) (s : sg) (g : Nat → Int32), HR s b g R → r + n = R → n < fu → wp (H_switchAll_2 b fu (nI r) s) (fun s' => HR s' b (swN g n r) R ∧ swOff b s s')
  | n, r, 0, s, g, H, hr, hf => absurd hf (by omega)
  | n, r, fu + 1, s, g, H, hr, hf => by
    have h6 := H.r6
    rw [H_switchAll_2, H.rm]
    refine wi (fun c => ?_) (fun c => ?_)
    · rw [nI_ltI (by omega) (by omega)] at c
      obtain ⟨n, rfl⟩ : ∃ m, n = m + 1 := ⟨n - 1, by omega⟩
      have e1 : nI r + nI 1 = nI (r + 1) := nI_add r 1
      have next : ∀ s', HR s' b (swV g r) R → swOff b s s' → wp (H_switchAll_2 b fu (nI r + nI 1) s') (fun s' => HR s' b (swN g (n + 1) r) R ∧ swOff b s s') := fun s' H' o => by
        rw [e1]
        exact wc (X_sw n (r + 1) fu s' (swV g r) H' (by omega) (by omega)) (fun a ha => ⟨ha.1, fun p k hp => (ha.2 p k hp).trans (o p k hp)⟩)
      have stay : (0 < g (18 + r) → newV g r = g (30 + r)) → wp (H_switchAll_2 b fu (nI r + nI 1) s) (fun s' => HR s' b (swN g (n + 1) r) R ∧ swOff b s s') := fun h => by
        refine next s ?_ (fun _ _ _ => rfl)
        unfold swV
        by_cases q : 0 < g (18 + r)
        · rw [if_pos q, if_pos (h q)]; exact H
        · rw [if_neg q]; exact H
      have turn : 0 < g (18 + r) → (g (30 + r) = nI 0 ∧ newV g r = nI 1 ∨ g (30 + r) = nI 1 ∧ newV g r = nI 0) → wp (H_switchAll_67 (H_switchAll_2 b fu) b (nI r) (nI 1) s) (fun s' => HR s' b (swN g (n + 1) r) R ∧ swOff b s s') := fun q h => by
        unfold H_switchAll_67
        rw [if_neg (by decide)]
        refine wsb (wsb ?_)
        rw [up_k (show 4 ≠ 1 by decide), (inc_eq H.sw).1]
        have hn : ¬ newV g r = g (30 + r) := by
          rcases h with ⟨z1, z2⟩ | ⟨z1, z2⟩
          · rw [z1, z2]; decide
          · rw [z1, z2]; decide
        refine next _ ?_ (fun p k hp => ?_)
        · unfold swV
          rw [if_pos q, if_neg hn]
          exact H.flip c _ h
        · rw [up, if_neg (fun w => hp ⟨w.1, Or.inr w.2⟩), up, if_neg (fun w => hp ⟨w.1, Or.inl w.2⟩)]
      have stay0 : newV g r = g (30 + r) → wp (H_switchAll_67 (H_switchAll_2 b fu) b (nI r) (nI 0) s) (fun s' => HR s' b (swN g (n + 1) r) R ∧ swOff b s s') := fun h => by
        unfold H_switchAll_67
        rw [if_pos (by decide)]
        exact stay (fun _ => h)
      refine wbP (hasTongue_eq H c) (fun q => stay (fun w => absurd w q)) (fun q => ?_)
      refine wbP (isOn_eq H c) (fun q1 => ?_) (fun q1 => ?_)
      · have q0 : g (30 + r) = nI 0 := (H.bit c).resolve_right q1
        refine wm rfl (by omega) (by decide) ?_
        rw [lowOf_eq H c q]
        refine wsb ?_
        rw [H.w c]
        refine wi (fun w => stay0 ?_) (fun w => turn q (Or.inl ⟨q0, ?_⟩))
        · unfold newV
          rw [if_pos w, q0]
          by_cases z : g r < highV g r
          · rw [if_pos z]
          · rw [if_neg z]
        · unfold newV
          rw [if_neg w]
      · refine wm rfl (by omega) (by decide) ?_
        rw [highOf_eq H c q]
        refine wsb ?_
        rw [H.w c]
        refine wi (fun w => stay0 ?_) (fun w => turn q (Or.inr ⟨q1, ?_⟩))
        · unfold newV
          rw [if_pos w, q1]
          by_cases z : lowV g r < g r
          · rw [if_pos z]
          · rw [if_neg z]
        · unfold newV
          have z : lowV g r < g r := by
            have h := low_high H c q
            rw [Int32.lt_iff_toInt_lt] at h w ⊢
            omega
          rw [if_pos z, if_neg w]
    · rw [nI_ltI (by omega) (by omega)] at c
      obtain rfl : n = 0 := by omega
      exact ws ⟨H, fun _ _ _ => rfl⟩
theorem X_switchAll (H : HR s b g R) : wp (H_switchAll b s) (fun s' => HR s' b (swN g R 0) R ∧ swOff b s s') := by
  unfold H_switchAll
  exact X_sw R 0 FU s g H (by omega) (by have := H.r6; show R < 100000; omega)
end VAL
end Q60
section Q61
/-! the class's hour, number by number -/
theorem clamp_eq (v : Int32) : (if nI 0 < (if v < nI 99 then v else nI 99) then (if v < nI 99 then v else nI 99) else nI 0) = clV v := by
  unfold clV
  have e0 : (nI 0).toInt = 0 := rfl
  have e9 : (nI 99).toInt = 99 := rfl
  have z0 : (0 : Int32).toInt = 0 := rfl
  by_cases c : v < nI 99
  · rw [if_pos c]
    rw [Int32.lt_iff_toInt_lt, e9] at c
    by_cases d : nI 0 < v
    · rw [if_pos d]
      rw [Int32.lt_iff_toInt_lt, e0] at d
      rw [if_neg (by rw [Int32.lt_iff_toInt_lt, z0]; omega), if_neg (by rw [Int32.lt_iff_toInt_lt, e9]; omega)]
    · rw [if_neg d]
      rw [Int32.lt_iff_toInt_lt, e0] at d
      by_cases f : v < 0
      · rw [if_pos f]
      · rw [if_neg f, if_neg (by rw [Int32.lt_iff_toInt_lt, e9]; omega)]
        rw [Int32.lt_iff_toInt_lt, z0] at f
        exact Int32.toInt_inj.mp (by rw [e0]; omega)
  · rw [if_neg c, if_pos (by decide)]
    rw [Int32.lt_iff_toInt_lt, e9] at c
    rw [if_neg (by rw [Int32.lt_iff_toInt_lt, z0]; omega)]
    by_cases d : nI 99 < v
    · rw [if_pos d]
    · rw [if_neg d]
      rw [Int32.lt_iff_toInt_lt, e9] at d
      exact Int32.toInt_inj.mp (by rw [e9]; omega)
section HOURV
variable {s s' s2 : sg} {b R r : Nat} {g a m : Nat → Int32} {x x1 x2 x3 y c c' : Int32}
theorem mid_hi {i : Nat} (h : r ≤ i) (h2 : i ≠ 50) : midV g R x1 x2 r c i = g i := by
  unfold midV
  rw [if_neg (by omega), if_neg h2]
theorem mid_lo {i : Nat} (h : i < r) : midV g R x1 x2 r c i = warmV g R x1 x2 i := by
  unfold midV
  rw [if_pos h]
theorem mid_50 (h : r ≤ 6) : midV g R x1 x2 r c 50 = c := by
  unfold midV
  rw [if_neg (by omega), if_pos rfl]
theorem mid_0 : midV g R x1 x2 0 c = gu g 50 c := by
  funext i
  unfold midV gu
  rw [if_neg (by omega)]
theorem HR.pass (H : HR s b (midV g R x1 x2 r c) R) (hr : r < R) (e : ∀ p k, ¬ (p = b ∧ k = 3) → ¬ (p = b + 1 ∧ k = r) → s2 p k = s p k) (hc : CN (s2 b 3) c') (hw : s2 (b + 1) r = warmV g R x1 x2 r) : HR s2 b (midV g R x1 x2 (r + 1) c') R := by
  have h6 := H.r6
  have hp : ∀ i, 2 ≤ i → s2 (b + i) = s (b + i) := fun i hi => by funext k; exact e _ _ (fun w => by omega) (fun w => by omega)
  have hm : ∀ i, 6 ≤ i → i ≠ 50 → midV g R x1 x2 (r + 1) c' i = midV g R x1 x2 r c i := fun i h1 h2 => by rw [mid_hi (by omega) h2, mid_hi (by omega) h2]
  refine ⟨h6, (e b 0 (by omega) (by omega)).trans H.rm, ?_, (e b 2 (by omega) (by omega)).trans (H.hr.trans (hm 49 (by decide) (by decide)).symm), ?_, ?_, fun q hq => ?_, ?_, ?_, ?_, ?_, ?_⟩
  · rw [e b 1 (by omega) (by omega)]; exact H.on.k (fun q hq => hm _ (by omega) (by omega))
  · rw [mid_50 (by omega)]; exact hc
  · rw [e b 4 (by omega) (by omega), hm 51 (by decide) (by decide)]; exact H.sw
  · rw [Nat.zero_add]
    by_cases z : q = r
    · subst z
      rw [hw, mid_lo (by omega)]
    · rw [e (b + 1) q (by omega) (by omega), H.w hq]
      by_cases z2 : q < r
      · rw [mid_lo z2, mid_lo (by omega)]
      · rw [mid_hi (by omega) (by omega), mid_hi (by omega) (by omega)]
  · rw [hp 2 (by decide)]; exact H.ls.k (fun q hq => hm _ (by omega) (by omega))
  · rw [hp 3 (by decide)]; exact H.br.k (fun q hq => hm _ (by omega) (by omega))
  · rw [hp 4 (by decide), hp 5 (by decide)]; exact H.to.k (fun q hq => hm _ (by omega) (by omega)) (fun q hq => hm _ (by omega) (by omega))
  · rw [hp 6 (by decide)]; exact H.wa.k (fun q hq => hm _ (by omega) (by omega))
  · rw [hp 7 (by decide)]; exact H.ou.k (fun q hq => hm _ (by omega) (by omega))
theorem HR.tick (H : HR s b g R) : HR (up s b 2 (s b 2 + nI 1)) b (gu g 49 (g 49 + nI 1)) R := by
  have h6 := H.r6
  have hp : ∀ i, 1 ≤ i → up s b 2 (s b 2 + nI 1) (b + i) = s (b + i) := fun i hi => up_off (by omega)
  refine ⟨h6, (up_k (by decide)).trans H.rm, ?_, ?_, ?_, ?_, ?_, ?_, ?_, ?_, ?_, ?_⟩
  · rw [up_k (by decide)]; exact H.on.k (fun q hq => gu_ne (by omega))
  · rw [up_eq, gu_eq, H.hr]
  · rw [up_k (by decide), gu_ne (by decide)]; exact H.bu
  · rw [up_k (by decide), gu_ne (by decide)]; exact H.sw
  · rw [hp 1 (by decide)]; exact H.wm.k (fun q hq => gu_ne (by omega))
  · rw [hp 2 (by decide)]; exact H.ls.k (fun q hq => gu_ne (by omega))
  · rw [hp 3 (by decide)]; exact H.br.k (fun q hq => gu_ne (by omega))
  · rw [hp 4 (by decide), hp 5 (by decide)]; exact H.to.k (fun q hq => gu_ne (by omega)) (fun q hq => gu_ne (by omega))
  · rw [hp 6 (by decide)]; exact H.wa.k (fun q hq => gu_ne (by omega))
  · rw [hp 7 (by decide)]; exact H.ou.k (fun q hq => gu_ne (by omega))
theorem hasWall_eq (H : HR s b g R) (hr : r < 6) : H_hasWall b (nI r) s = some (if r + 1 < R then nI 1 else nI 0) := by
  have h6 := H.r6
  unfold H_hasWall
  rw [if_neg (nI_pos (by omega)), H.rm]
  by_cases c : r + 1 < R
  · rw [if_pos ((nI_m1 (by omega) (by omega)).mpr c), if_pos c]
  · rw [if_neg (fun w => c ((nI_m1 (by omega) (by omega)).mp w)), if_neg c]
theorem burn_eq (hr : r < 6) (hc : CN (s b 3) c) : H_burn b (nI r) s = some (up s b 3 (incV c) (b + 3) r, up s b 3 (incV c)) := by
  unfold H_burn
  rw [(inc_eq hc).1, midx_nI hr (by decide)]
  rfl
theorem X_hr : ∀ (n r fu : Nat) (s : sg) (c x3 : Int32), HR s b (midV g R x1 x2 r c) R → r + n = R → n < fu → x3 = innW g R r → wp (H_passHourBy_9 b x1 x2 fu x3 (nI r) s) (fun s' => HR s' b (gu (midV g R x1 x2 R (brV g x2 n r c)) 49 (g 49 + nI 1)) R ∧ offH b s s')
  | n, r, 0, s, c, x3, H, hr, hf, hx => absurd hf (by omega)
  | n, r, fu + 1, s, c, x3, H, hr, hf, hx => by
    have h6 := H.r6
    rw [H_passHourBy_9, H.rm]
    have e1 : nI r + nI 1 = nI (r + 1) := nI_add r 1
    refine wi (fun cc => ?_) (fun cc => ?_)
    · rw [nI_ltI (by omega) (by omega)] at cc
      obtain ⟨n, rfl⟩ : ∃ m, n = m + 1 := ⟨n - 1, by omega⟩
      have gw : s (b + 1) r = g r := by rw [H.w cc, mid_hi (by omega) (by omega)]
      have gl : s (b + 2) r = g (6 + r) := by rw [H.ls r cc, mid_hi (by omega) (by omega)]
      have gb : s (b + 3) r = g (12 + r) := by rw [H.br r cc, mid_hi (by omega) (by omega)]
      have gn : midV g R x1 x2 r c (30 + r) = g (30 + r) := mid_hi (by omega) (by omega)
      have gc : CN (s b 3) c := by have h := H.bu; rwa [mid_50 (by omega)] at h
      have go : ∀ (y6 y0 c' : Int32) (s' : sg), y6 = lossV g x1 r → y0 = bnV g x2 r → c' = (if g (30 + r) = nI 1 ∧ x2 = 0 then incV c else c) → (∀ p k, ¬ (p = b ∧ k = 3) → s' p k = s p k) → CN (s' b 3) c' → wp (H_passHourBy_106 (H_passHourBy_9 b x1 x2 fu) b x1 x2 x3 (nI r) (outW g R r) y6 y0 s') (fun s' => HR s' b (gu (midV g R x1 x2 R (brV g x2 (n + 1) r c)) 49 (g 49 + nI 1)) R ∧ offH b s s') := fun y6 y0 c' s' h6' h0 hc' o hc => by
        unfold H_passHourBy_106
        refine wm rfl (by omega) (by decide) (wm rfl (by omega) (by decide) (wsb ?_))
        rw [clamp_eq, e1]
        have hw : s' (b + 1) r = g r := (o _ _ (by omega)).trans gw
        have hv : clV ((((s' (b + 1) r + x3) - outW g R r) - y6) + y0) = warmV g R x1 x2 r := by rw [hw, hx, h6', h0]; rfl
        rw [hv]
        have H' : HR (up s' (b + 1) r (warmV g R x1 x2 r)) b (midV g R x1 x2 (r + 1) c') R :=
          H.pass cc (fun p k q1 q2 => by rw [up, if_neg q2]; exact o p k q1) (by rw [up_p (by omega)]; exact hc) up_eq
        refine wc (X_hr n (r + 1) fu _ c' (outW g R r) H' (by omega) (by omega) rfl) (fun a ha => ⟨?_, fun p hp => ?_⟩)
        · rw [brV, ← hc']; exact ha.1
        · rw [ha.2 p hp, up_off (by omega)]
          funext k
          exact o p k (by omega)
      have t59 : wp (H_passHourBy_59 (H_passHourBy_9 b x1 x2 fu) b x1 x2 x3 (nI r) (outW g R r) s) (fun s' => HR s' b (gu (midV g R x1 x2 R (brV g x2 (n + 1) r c)) 49 (g 49 + nI 1)) R ∧ offH b s s') := by
        unfold H_passHourBy_59 H_passHourBy_105
        refine wm rfl (by omega) (by decide) (wm rfl (by omega) (by decide) ?_)
        have hl : ((s (b + 2) r) * ((s (b + 1) r) - x1)) / (nI 10) = lossV g x1 r := by rw [gl, gw]; rfl
        rw [hl]
        refine wbP (isOn_eq H cc) (fun q => ?_) (fun q => ?_)
        · rw [gn] at q
          exact go _ _ c s rfl (by unfold bnV; rw [if_neg (fun w => q w.1)]) (by rw [if_neg (fun w => q w.1)]) (fun _ _ _ => rfl) gc
        · rw [gn] at q
          refine wi (fun z => ?_) (fun z => ?_)
          · rw [burn_eq (by omega) gc]
            refine wsb ?_
            refine go _ _ (incV c) _ rfl ?_ (by rw [if_pos ⟨q, z⟩]) (fun p k hp => if_neg hp) ?_
            · rw [up_p (by omega), gb]
              unfold bnV
              rw [if_pos ⟨q, z⟩]
            · dsimp only; rw [up_eq]; exact (inc_eq gc).2
          · exact go _ _ c s rfl (by unfold bnV; rw [if_neg (fun w => z w.2)]) (by rw [if_neg (fun w => z w.2)]) (fun _ _ _ => rfl) gc
      refine wbP (hasWall_eq H (by omega)) (fun q => ?_) (fun q => ?_)
      · have ho : nI 0 = outW g R r := by unfold outW; rw [if_neg q]
        rw [ho]; exact t59
      · refine wm rfl (by omega) (by decide) (wm rfl (by omega) (by decide) (wm e1 (by omega) (by decide) ?_))
        have ho : ((s (b + 6) r) * ((s (b + 1) r) - (s (b + 1) (r + 1)))) / (nI 10) = outW g R r := by
          unfold outW
          rw [if_pos q, H.wa r q, gw, H.w q, mid_hi (by omega) (by omega), mid_hi (by omega) (by omega)]
        rw [ho]; exact t59
    · rw [nI_ltI (by omega) (by omega)] at cc
      obtain rfl : n = 0 := by omega
      obtain rfl : r = R := by omega
      refine wsb (ws ⟨?_, offH.up ⟨by omega, by omega⟩⟩)
      have h := H.tick
      rw [mid_hi (show r ≤ 49 by omega) (by decide)] at h
      exact h
theorem X_passHourBy (H : HR s b g R) : wp (H_passHourBy b x1 x2 s) (fun s' => HR s' b (hourV R x1 x2 g) R ∧ offH b s s') := by
  unfold H_passHourBy
  refine wb (X_switchAll H) (fun s1 h => ?_)
  have H1 : HR s1 b (midV (swN g R 0) R x1 x2 0 (swN g R 0 50)) R := by rw [mid_0, gu_self]; exact h.1
  exact wc (X_hr R 0 FU s1 _ (nI 0) H1 (by omega) (by have := H.r6; show R < 100000; omega) rfl) (fun a ha => ⟨ha.1, h.2.off.tr ha.2⟩)
theorem sky_i {h : Nat} (hh : h < 2 ^ 30) : (nI h).toInt.toNat % 8 = h % 8 := by rw [nI_toInt (by omega)]; rfl
theorem skyNow_eq {h : Nat} (H : HR s b g R) (e : g 49 = nI h) (hh : h < 2 ^ 30) : H_skyNow b s = some (skyV g) := by
  unfold H_skyNow skyV
  rw [H.hr, e, rem8 hh, midx_nI (by omega) (by decide), sky_i hh]
  show some (s (b + 7) (h % 8)) = _
  rw [H.ou (h % 8) (by omega)]
theorem X_passHour {h : Nat} (H : HR s b g R) (e : g 49 = nI h) (hh : h < 2 ^ 30) : wp (H_passHour b s) (fun s' => HR s' b (nextV R g) R ∧ offH b s s') := by
  unfold H_passHour
  rw [skyNow_eq H e hh]
  exact wsb (wb (X_passHourBy H) (fun a ha => ws ha))
theorem swV_at {i : Nat} (h : i < 30 ∨ 36 ≤ i) (h2 : i ≠ 51) (hr : r < 6) : swV g r i = g i := by
  unfold swV
  by_cases c : 0 < g (18 + r)
  · rw [if_pos c]
    by_cases d : newV g r = g (30 + r)
    · rw [if_pos d]
    · rw [if_neg d, gu_ne (by omega), gu_ne h2]
  · rw [if_neg c]
theorem swN_at {i : Nat} (h : i < 30 ∨ 36 ≤ i) (h2 : i ≠ 51) : ∀ (n r : Nat) (g : Nat → Int32), r + n ≤ 6 → swN g n r i = g i
  | 0, r, g, hr => rfl
  | n + 1, r, g, hr => by rw [swN, swN_at h h2 n (r + 1) _ (by omega), swV_at h h2 (by omega)]
theorem hourV_49 {h : Nat} (hR : R ≤ 6) (e : g 49 = nI h) : hourV R x1 x2 g 49 = nI (h + 1) := by
  unfold hourV passV
  rw [gu_eq, swN_at (by omega) (by decide) R 0 g (by omega), e, nI_add]
theorem nextV_49 {h : Nat} (hR : R ≤ 6) (e : g 49 = nI h) : nextV R g 49 = nI (h + 1) := hourV_49 hR e
end HOURV
end Q61
section Q62
/-! the reference's hour, number by number -/
def pg (t : sg) (p : Nat) : Nat → Int32 := fun i => t 11 (p + i)
section MHOUR
variable {t t' : sg} {p R r : Nat} {g : Nat → Int32} {x x1 x2 x3 y c c' : Int32}
theorem pg_up {k : Nat} {v : Int32} : pg (up t 11 (p + k) v) p = gu (pg t p) k v := by
  funext i
  unfold pg gu
  by_cases h : i = k
  · rw [if_pos h, h, up_eq]
  · rw [if_neg h, up_k (by omega)]
theorem pg_16 {q k : Nat} {v : Int32} (h : q ≠ 11) : pg (up t q k v) p = pg t p := by
  funext i
  unfold pg
  rw [up_p (fun w => h w.symm)]
theorem ix3 {a r : Nat} : nI p + nI a + nI r = nI (p + (a + r)) := by rw [nI_add, nI_add, Nat.add_assoc]
theorem ix2 {a : Nat} : nI p + nI a = nI (p + a) := nI_add p a
theorem lowOn_eq (hp : p + 52 ≤ 312) (hr : r < 6) : M_lowOn (nI p) (nI r) t = some (lowV (pg t p) r) := by
  unfold M_lowOn lowV
  rw [ix3, ix3, midx_nI (by omega) (by decide), midx_nI (by omega) (by decide)]
  show (if pg t p (18 + r) - nI 1 = 0 then some (pg t p (24 + r) - nI 2) else if pg t p (18 + r) - nI 1 = nI 1 then some (pg t p (24 + r) - nI 1) else some (pg t p (24 + r) - nI 5)) = _
  by_cases c1 : pg t p (18 + r) - nI 1 = 0
  · rw [if_pos c1, if_pos c1]
  · rw [if_neg c1, if_neg c1]
    by_cases c2 : pg t p (18 + r) - nI 1 = nI 1
    · rw [if_pos c2, if_pos c2]
    · rw [if_neg c2, if_neg c2]
theorem highOn_eq (hp : p + 52 ≤ 312) (hr : r < 6) : M_highOn (nI p) (nI r) t = some (highV (pg t p) r) := by
  unfold M_highOn highV
  rw [ix3, ix3, midx_nI (by omega) (by decide), midx_nI (by omega) (by decide)]
  show (if pg t p (18 + r) - nI 1 = nI 1 then some (pg t p (24 + r) + nI 1) else if pg t p (18 + r) - nI 1 = nI 3 then some (pg t p (24 + r) + nI 4) else some (pg t p (24 + r) + nI 2)) = _
  by_cases c1 : pg t p (18 + r) - nI 1 = nI 1
  · rw [if_pos c1, if_pos c1]
  · rw [if_neg c1, if_neg c1]
    by_cases c2 : pg t p (18 + r) - nI 1 = nI 3
    · rw [if_pos c2, if_pos c2]
    · rw [if_neg c2, if_neg c2]
theorem offP.u {k : Nat} {v : Int32} (hk : k < 52) : offP p t (up t 11 (p + k) v) := fun q j h _ => if_neg (fun w => h ⟨w.1, by omega, by omega⟩)
theorem offP.w {k : Nat} {v : Int32} : offP p t (up t 16 k v) := fun q j _ h => if_neg (fun w => h w.1)
theorem Y_sw (hp : p + 52 ≤ 312) (hR : R ≤ 6) : ∀ (n r fu : Nat) (t : sg), t 10 1 = nI R → r + n = R → n < fu → wp (M_tonguesOn_2 (nI p) fu (nI r) t) (fun t' => pg t' p = swN (pg t p) n r ∧ offP p t t')
  | n, r, 0, t, e, hr, hf => absurd hf (by omega)
  | n, r, fu + 1, t, e, hr, hf => by
    rw [M_tonguesOn_2, e]
    refine wi (fun cc => ?_) (fun cc => ?_)
    · rw [nI_ltI (by omega) (by omega)] at cc
      obtain ⟨n, rfl⟩ : ∃ m, n = m + 1 := ⟨n - 1, by omega⟩
      have e1 : nI r + nI 1 = nI (r + 1) := nI_add r 1
      have next : ∀ t', pg t' p = swV (pg t p) r → offP p t t' → wp (M_tonguesOn_2 (nI p) fu (nI r + nI 1) t') (fun t' => pg t' p = swN (pg t p) (n + 1) r ∧ offP p t t') := fun t' h o => by
        rw [e1]
        refine wc (Y_sw hp hR n (r + 1) fu t' ((o 10 1 (by omega) (by decide)).trans e) (by omega) (by omega)) (fun a ha => ⟨?_, o.tr ha.2⟩)
        rw [ha.1, h]; rfl
      refine wm ix3 (by omega) (by decide) (wi (fun q => ?_) (fun q => ?_))
      · have q' : 0 < pg t p (18 + r) := q
        have put : ∀ y0 : Int32, y0 = newV (pg t p) r → wp (M_tonguesOn_72 (M_tonguesOn_2 (nI p) fu) (nI p) (nI r) y0 t) (fun t' => pg t' p = swN (pg t p) (n + 1) r ∧ offP p t t') := fun y0 hy => by
          have go : ∀ z : Int32, (∀ y1, y1 = pg t p 51 → y1 + z = (if newV (pg t p) r = pg t p (30 + r) then pg t p 51 else incV (pg t p 51))) → wp (M_tonguesOn_132 (M_tonguesOn_2 (nI p) fu) (nI p) (nI r) y0 z (t 11 (p + 51)) (nI p + nI 51) t) (fun t' => pg t' p = swN (pg t p) (n + 1) r ∧ offP p t t') := fun z hz => by
            unfold M_tonguesOn_132
            refine wm ix2 (by omega) (by decide) (wsb (wm ix3 (by omega) (by decide) (wsb ?_)))
            refine next _ ?_ (offP.tr (offP.u (by decide)) (offP.u (by omega)))
            rw [pg_up, pg_up, hz (t 11 (p + 51)) rfl, hy]
            unfold swV
            rw [if_pos q']
            by_cases d : newV (pg t p) r = pg t p (30 + r)
            · rw [if_pos d, if_pos d, gu_self, d, gu_self]
            · rw [if_neg d, if_neg d]
          unfold M_tonguesOn_72 M_tonguesOn_109 M_tonguesOn_110
          refine wm ix3 (by omega) (by decide) (wi (fun d => ?_) (fun d => ?_))
          · have d' : newV (pg t p) r = pg t p (30 + r) := hy.symm.trans d
            refine wm ix2 (by omega) (by decide) ?_
            rw [if_pos (by decide)]
            refine go _ (fun y1 hy1 => ?_)
            rw [if_pos d', add_nI0, hy1]
          · have d' : ¬ newV (pg t p) r = pg t p (30 + r) := fun w => d (hy.trans w)
            refine wm ix2 (by omega) (by decide) (wi (fun f => ?_) (fun f => ?_))
            · have f' : pg t p 51 < nI 9999 := f
              refine wm ix2 (by omega) (by decide) ?_
              rw [if_neg (by decide)]
              refine go _ (fun y1 hy1 => ?_)
              unfold incV
              rw [if_neg d', if_pos f', hy1]
            · have f' : ¬ pg t p 51 < nI 9999 := f
              refine wm ix2 (by omega) (by decide) ?_
              rw [if_pos (by decide)]
              refine go _ (fun y1 hy1 => ?_)
              unfold incV
              rw [if_neg d', if_neg f', add_nI0, hy1]
        refine wm ix2 (by omega) (by decide) ?_
        rw [lowOn_eq hp (by omega)]
        refine wsb (wi (fun d => ?_) (fun d => ?_))
        · have d' : lowV (pg t p) r < pg t p r := d
          rw [highOn_eq hp (by omega)]
          refine wsb (wi (fun f => ?_) (fun f => ?_))
          · have f' : pg t p r < highV (pg t p) r := f
            refine wm ix3 (by omega) (by decide) (put _ ?_)
            unfold newV
            rw [if_pos d', if_pos f']; rfl
          · have f' : ¬ pg t p r < highV (pg t p) r := f
            refine put _ ?_
            unfold newV
            rw [if_pos d', if_neg f']
        · have d' : ¬ lowV (pg t p) r < pg t p r := d
          refine put _ ?_
          unfold newV
          rw [if_neg d']
      · refine next t ?_ offP.rf
        have q' : ¬ 0 < pg t p (18 + r) := q
        unfold swV
        rw [if_neg q']
    · rw [nI_ltI (by omega) (by omega)] at cc
      obtain rfl : n = 0 := by omega
      exact ws ⟨rfl, offP.rf⟩
theorem Y_tonguesOn (hp : p + 52 ≤ 312) (hR : R ≤ 6) (e : t 10 1 = nI R) : wp (M_tonguesOn (nI p) t) (fun t' => pg t' p = swN (pg t p) R 0 ∧ offP p t t') := by
  unfold M_tonguesOn
  exact Y_sw hp hR R 0 FU t e (by omega) (by show R < 100000; omega)
def flV (g : Nat → Int32) (x1 x2 : Int32) (q : Nat) : Int32 := (-(lossV g x1 q)) + bnV g x2 q
theorem ring1 (w i o l b : Int32) : w + ((((-l) + b) + i) - o) = (((w + i) - o) - l) + b := by
  simp only [Int32.sub_eq_add_neg]
  ac_rfl
theorem sub_nI0 (x : Int32) : x - nI 0 = x := by rw [nI_0, Int32.sub_zero]
theorem Y_222 (hp : p + 52 ≤ 312) (hR : R ≤ 6) : ∀ (n r fu : Nat) (t : sg), t 10 1 = nI R → pg t p = midV g R x1 x2 r c → (∀ q, q < R → t 16 q = (flV g x1 x2 q + innW g R q) - outW g R q) → r + n = R → n < fu → wp (M_hourOn_222 (nI p) fu (nI r) t) (fun t' => pg t' p = gu (midV g R x1 x2 R c) 49 (g 49 + nI 1) ∧ offP p t t')
  | n, r, 0, t, e, hg, hf0, hr, hf => absurd hf (by omega)
  | n, r, fu + 1, t, e, hg, hf0, hr, hf => by
    rw [M_hourOn_222, e]
    have at_ : ∀ i, t 11 (p + i) = midV g R x1 x2 r c i := fun i => congrFun hg i
    refine wi (fun cc => ?_) (fun cc => ?_)
    · rw [nI_ltI (by omega) (by omega)] at cc
      obtain ⟨n, rfl⟩ : ∃ m, n = m + 1 := ⟨n - 1, by omega⟩
      have e1 : nI r + nI 1 = nI (r + 1) := nI_add r 1
      refine wm ix2 (by omega) (by decide) (wm rfl (by omega) (by decide) ?_)
      have hv : t 11 (p + r) + t 16 r = (((g r + innW g R r) - outW g R r) - lossV g x1 r) + bnV g x2 r := by
        rw [at_ r, mid_hi (by omega) (by omega), hf0 r cc]
        exact ring1 _ _ _ _ _
      rw [hv]
      have go : ∀ y : Int32, y = warmV g R x1 x2 r → wp (M_hourOn_281 (M_hourOn_222 (nI p) fu) (nI p) (nI r) y (nI p + nI r) t) (fun t' => pg t' p = gu (midV g R x1 x2 R c) 49 (g 49 + nI 1) ∧ offP p t t') := fun y hy => by
        unfold M_hourOn_281
        refine wm ix2 (by omega) (by decide) (wsb ?_)
        rw [e1]
        refine wc (Y_222 hp hR n (r + 1) fu _ ((up_p (by decide)).trans e) ?_ (fun q hq => (up_p (by decide)).trans (hf0 q hq)) (by omega) (by omega)) (fun a ha => ⟨ha.1, (offP.u (by omega)).tr ha.2⟩)
        rw [pg_up, hg, hy]
        funext i
        by_cases z : i = r
        · rw [z, gu_eq, mid_lo (by omega)]
        · rw [gu_ne z]
          unfold midV
          by_cases z2 : i < r
          · rw [if_pos z2, if_pos (by omega)]
          · rw [if_neg z2, if_neg (show ¬ i < r + 1 by omega)]
      refine wi (fun d => go _ ?_) (fun d => wi (fun f => go _ ?_) (fun f => go _ ?_))
      · unfold warmV clV; rw [if_pos d]
      · unfold warmV clV; rw [if_neg d, if_pos f]
      · unfold warmV clV; rw [if_neg d, if_neg f]
    · rw [nI_ltI (by omega) (by omega)] at cc
      obtain rfl : n = 0 := by omega
      obtain rfl : r = R := by omega
      refine wm ix2 (by omega) (by decide) (wm ix2 (by omega) (by decide) (wsb (ws ⟨?_, offP.u (by decide)⟩)))
      rw [pg_up, hg, at_ 49, mid_hi (show r ≤ 49 by omega) (by decide)]
/-- the flows when the walls below r are through -/
def fwV (g : Nat → Int32) (R : Nat) (x1 x2 : Int32) (r q : Nat) : Int32 := if q < r then (flV g x1 x2 q + innW g R q) - outW g R q else if q = r then flV g x1 x2 q + innW g R q else flV g x1 x2 q
theorem Y_135 (hp : p + 52 ≤ 312) (hR : R ≤ 6) : ∀ (n r fu : Nat) (t : sg), t 10 1 = nI R → pg t p = gu g 50 c → (∀ q, q < R → t 16 q = fwV g R x1 x2 r q) → r + n = R → n < fu → wp (M_hourOn_135 (nI p) fu (nI r) t) (fun t' => pg t' p = gu (midV g R x1 x2 R c) 49 (g 49 + nI 1) ∧ offP p t t')
  | n, r, 0, t, e, hg, hf0, hr, hf => absurd hf (by omega)
  | n, r, fu + 1, t, e, hg, hf0, hr, hf => by
    rw [M_hourOn_135, e]
    have at_ : ∀ i, i ≠ 50 → t 11 (p + i) = g i := fun i hi => (congrFun hg i).trans (gu_ne hi)
    refine wi (fun cc => ?_) (fun cc => ?_)
    · rw [nI_m1 (by omega) (by omega)] at cc
      obtain ⟨n, rfl⟩ : ∃ m, n = m + 1 := ⟨n - 1, by omega⟩
      have e1 : nI r + nI 1 = nI (r + 1) := nI_add r 1
      have i1 : nI p + nI r + nI 1 = nI (p + (r + 1)) := by rw [nI_add, nI_add, Nat.add_assoc]
      refine wm ix3 (by omega) (by decide) (wm ix2 (by omega) (by decide) (wm i1 (by omega) (by decide) (wm rfl (by omega) (by decide) (wm rfl (by omega) (by decide) (wsb (wm e1 (by omega) (by decide) (wm e1 (by omega) (by decide) (wsb ?_))))))))
      rw [e1]
      have ho : (((t 11 (p + (36 + r))) + (nI 2)) * ((t 11 (p + r)) - (t 11 (p + (r + 1))))) / (nI 10) = outW g R r := by
        unfold outW
        rw [if_pos cc, at_ _ (by omega), at_ _ (by omega), at_ _ (by omega)]
      rw [ho]
      refine wc (Y_135 hp hR n (r + 1) fu _ ?_ ?_ (fun q hq => ?_) (by omega) (by omega)) (fun a ha => ⟨ha.1, (offP.tr offP.w offP.w).tr ha.2⟩)
      · rw [up_p (by decide), up_p (by decide)]; exact e
      · rw [pg_16 (by decide), pg_16 (by decide)]; exact hg
      · by_cases z1 : q = r + 1
        · subst z1
          rw [up_eq, up_k (by omega), hf0 _ hq]
          unfold fwV
          rw [if_neg (by omega), if_neg (by omega), if_neg (by omega), if_pos rfl]; rfl
        · rw [up_k z1]
          by_cases z2 : q = r
          · subst z2
            rw [up_eq, hf0 _ hq]
            unfold fwV
            rw [if_neg (by omega), if_pos rfl, if_pos (by omega)]
          · rw [up_k z2, hf0 _ hq]
            unfold fwV
            by_cases z3 : q < r
            · rw [if_pos z3, if_pos (by omega)]
            · rw [if_neg z3, if_neg z2, if_neg (by omega), if_neg z1]
    · rw [nI_m1 (by omega) (by omega)] at cc
      refine Y_222 hp hR R 0 FU t e (by rw [mid_0]; exact hg) (fun q hq => ?_) (by omega) (by show R < 100000; omega)
      rw [hf0 q hq]
      unfold fwV
      by_cases z : q < r
      · rw [if_pos z]
      · have ho : outW g R q = nI 0 := by unfold outW; rw [if_neg (by omega)]
        rw [if_neg z, if_pos (by omega), ho, sub_nI0]
theorem Y_8 (hp : p + 52 ≤ 312) (hR : R ≤ 6) : ∀ (n r fu : Nat) (t : sg) (c : Int32), t 10 1 = nI R → pg t p = gu g 50 c → (∀ q, q < r → t 16 q = flV g x1 x2 q) → r + n = R → n < fu → wp (M_hourOn_8 (nI p) x1 x2 fu (nI r) t) (fun t' => pg t' p = gu (midV g R x1 x2 R (brV g x2 n r c)) 49 (g 49 + nI 1) ∧ offP p t t')
  | n, r, 0, t, c, e, hg, hf0, hr, hf => absurd hf (by omega)
  | n, r, fu + 1, t, c, e, hg, hf0, hr, hf => by
    rw [M_hourOn_8, e]
    have at_ : ∀ i, i ≠ 50 → t 11 (p + i) = g i := fun i hi => (congrFun hg i).trans (gu_ne hi)
    refine wi (fun cc => ?_) (fun cc => ?_)
    · rw [nI_ltI (by omega) (by omega)] at cc
      obtain ⟨n, rfl⟩ : ∃ m, n = m + 1 := ⟨n - 1, by omega⟩
      have e1 : nI r + nI 1 = nI (r + 1) := nI_add r 1
      refine wm ix3 (by omega) (by decide) (wm ix2 (by omega) (by decide) (wm rfl (by omega) (by decide) (wsb (wm ix3 (by omega) (by decide) ?_))))
      have hl : ((t 11 (p + (6 + r))) * ((t 11 (p + r)) - x1)) / (nI 10) = lossV g x1 r := by rw [at_ _ (by omega), at_ _ (by omega)]; rfl
      rw [hl, up_p (show 11 ≠ 16 by decide), at_ (30 + r) (by omega)]
      have go : ∀ (t' : sg) (c' : Int32), c' = (if g (30 + r) = nI 1 ∧ x2 = 0 then incV c else c) → offP p t t' → pg t' p = gu g 50 c' → t' 16 r = flV g x1 x2 r → (∀ q, q ≠ r → t' 16 q = t 16 q) → wp (M_hourOn_8 (nI p) x1 x2 fu (nI r + nI 1) t') (fun t' => pg t' p = gu (midV g R x1 x2 R (brV g x2 (n + 1) r c)) 49 (g 49 + nI 1) ∧ offP p t t') := fun t' c' hc' o h1 h2 h3 => by
        rw [e1]
        refine wc (Y_8 hp hR n (r + 1) fu t' c' ((o 10 1 (by omega) (by decide)).trans e) h1 (fun q hq => ?_) (by omega) (by omega)) (fun a ha => ⟨?_, o.tr ha.2⟩)
        · by_cases z : q = r
          · rw [z]; exact h2
          · rw [h3 q z]; exact hf0 q (by omega)
        · rw [ha.1, brV, ← hc']
      have plain : ¬ (g (30 + r) = nI 1 ∧ x2 = 0) → wp (M_hourOn_8 (nI p) x1 x2 fu (nI r + nI 1) (up t 16 r (-(lossV g x1 r)))) (fun t' => pg t' p = gu (midV g R x1 x2 R (brV g x2 (n + 1) r c)) 49 (g 49 + nI 1) ∧ offP p t t') := fun q => by
        refine go _ c (by rw [if_neg q]) offP.w (by rw [pg_16 (by decide)]; exact hg) ?_ (fun k hk => up_k hk)
        rw [up_eq]
        unfold flV bnV
        rw [if_neg q, add_nI0]
      refine wi (fun q => wi (fun z => ?_) (fun z => plain (fun w => z w.2))) (fun q => plain (fun w => q w.1))
      refine wm rfl (by omega) (by decide) (wm ix3 (by omega) (by decide) (wm rfl (by omega) (by decide) (wsb (wm ix2 (by omega) (by decide) (wm ix2 (by omega) (by decide) ?_)))))
      rw [up_eq, up_p (show 11 ≠ 16 by decide), up_p (show 11 ≠ 16 by decide), up_p (show 11 ≠ 16 by decide), at_ (12 + r) (by omega)]
      have h50 : t 11 (p + 50) = c := (congrFun hg 50).trans gu_eq
      rw [h50]
      have fin : ∀ y0 : Int32, c + y0 = incV c → wp (M_hourOn_124 (M_hourOn_8 (nI p) x1 x2 fu) (nI p) x1 x2 (nI r) y0 c (nI p + nI 50) (up (up t 16 r (-(lossV g x1 r))) 16 r (-(lossV g x1 r) + g (12 + r)))) (fun t' => pg t' p = gu (midV g R x1 x2 R (brV g x2 (n + 1) r c)) 49 (g 49 + nI 1) ∧ offP p t t') := fun y0 hy => by
        unfold M_hourOn_124
        refine wm ix2 (by omega) (by decide) (wsb ?_)
        rw [hy]
        refine go _ (incV c) (by rw [if_pos ⟨q, z⟩]) ((offP.tr offP.w offP.w).tr (offP.u (by decide))) ?_ ?_ (fun k hk => ?_)
        · rw [pg_up, pg_16 (by decide), pg_16 (by decide), hg]
          funext i
          unfold gu
          by_cases w : i = 50
          · rw [if_pos w, if_pos w]
          · rw [if_neg w, if_neg w, if_neg w]
        · rw [up_p (by decide), up_eq]
          unfold flV bnV
          rw [if_pos ⟨q, z⟩]
        · rw [up_p (by decide), up_k hk, up_k hk]
      refine wi (fun w => fin _ ?_) (fun w => fin _ ?_)
      · unfold incV; rw [if_pos w]
      · unfold incV; rw [if_neg w, add_nI0]
    · rw [nI_ltI (by omega) (by omega)] at cc
      obtain rfl : n = 0 := by omega
      refine Y_135 hp hR R 0 FU t e hg (fun q hq => ?_) (by omega) (by show R < 100000; omega)
      rw [hf0 q (by omega)]
      unfold fwV
      rw [if_neg (by omega)]
      by_cases z : q = 0
      · rw [if_pos z, z]
        show _ = _ + nI 0
        rw [add_nI0]
      · rw [if_neg z]
theorem Y_hourOn (hp : p + 52 ≤ 312) (hR : R ≤ 6) (e : t 10 1 = nI R) : wp (M_hourOn (nI p) x1 x2 t) (fun t' => pg t' p = hourV R x1 x2 (pg t p) ∧ offP p t t') := by
  unfold M_hourOn
  refine wb (Y_tonguesOn hp hR e) (fun t1 h => ?_)
  exact wc (Y_8 (g := swN (pg t p) R 0) hp hR R 0 FU t1 (swN (pg t p) R 0 50) ((h.2 10 1 (by omega) (by decide)).trans e) (by rw [gu_self]; exact h.1) (fun q hq => absurd hq (by omega)) (by omega) (by show R < 100000; omega)) (fun a ha => ⟨ha.1, h.2.tr ha.2⟩)
theorem outOn_eq {h : Nat} (hp : p + 52 ≤ 312) (e : pg t p 49 = nI h) (hh : h < 2 ^ 30) : M_outOn (nI p) t = some (skyV (pg t p)) := by
  unfold M_outOn skyV
  have e' : t 11 (p + 49) = nI h := e
  rw [ix2, midx_nI (by omega) (by decide)]
  show (midx ((nI p + nI 41) + (t 11 (p + 49) - t 11 (p + 49) / nI 8 * nI 8)) 312).bind _ = _
  rw [e', rem8 hh, ix3, midx_nI (by omega) (by decide), e, sky_i hh]
  rfl
theorem Y_goesOn {h : Nat} (hp : p + 52 ≤ 312) (hR : R ≤ 6) (e : t 10 1 = nI R) (e9 : pg t p 49 = nI h) (hh : h < 2 ^ 30) : wp (M_goesOn (nI p) t) (fun t' => pg t' p = nextV R (pg t p) ∧ offP p t t') := by
  unfold M_goesOn
  rw [outOn_eq hp e9 hh]
  exact wsb (wb (Y_hourOn hp hR e) (fun a ha => ws ha))
end MHOUR
end Q62
section Q63
/-! two programs side by side -/
def w2 {α β : Type} (o : Option α) (o' : Option β) (Q : α → β → Prop) : Prop := ∃ a b, o = some a ∧ o' = some b ∧ Q a b
section W2
variable {α β γ δ : Type} {o : Option α} {o' : Option β} {Q : α → β → Prop}
theorem w2.mk {P : α → Prop} {P' : β → Prop} (h : wp o P) (h' : wp o' P') (k : ∀ a b, P a → P' b → Q a b) : w2 o o' Q := by
  obtain ⟨a, e, p⟩ := h
  obtain ⟨b, e', p'⟩ := h'
  exact ⟨a, b, e, e', k a b p p'⟩
theorem w2.add {P : α → Prop} {P' : β → Prop} (h : w2 o o' Q) (h1 : wp o P) (h2 : wp o' P') : w2 o o' (fun a b => Q a b ∧ P a ∧ P' b) := by
  obtain ⟨a, b, e, e', q⟩ := h
  obtain ⟨a1, f, p⟩ := h1
  obtain ⟨b1, f', p'⟩ := h2
  rw [e] at f
  rw [e'] at f'
  cases f
  cases f'
  exact ⟨a, b, e, e', q, p, p'⟩
theorem w2.c {Q' : α → β → Prop} (h : w2 o o' Q) (k : ∀ a b, Q a b → Q' a b) : w2 o o' Q' := by
  obtain ⟨a, b, e, e', q⟩ := h
  exact ⟨a, b, e, e', k a b q⟩
theorem w2s {a : α} {b : β} (h : Q a b) : w2 (some a) (some b) Q := ⟨a, b, rfl, rfl, h⟩
theorem w2sl {a : γ} {f : γ → Option α} (k : w2 (f a) o' Q) : w2 ((some a).bind f) o' Q := k
theorem w2sr {a : γ} {f : γ → Option β} (k : w2 o (f a) Q) : w2 o ((some a).bind f) Q := k
theorem w2l {x : Int32} {n j : Nat} {f : Nat → Option α} (hx : x = nI j) (hj : j < n) (hn : n < 2 ^ 31) (k : w2 (f j) o' Q) : w2 ((midx x n).bind f) o' Q := by
  rw [hx, midx_nI hj hn]; exact k
theorem w2r {x : Int32} {n j : Nat} {f : Nat → Option β} (hx : x = nI j) (hj : j < n) (hn : n < 2 ^ 31) (k : w2 o (f j) Q) : w2 o ((midx x n).bind f) Q := by
  rw [hx, midx_nI hj hn]; exact k
theorem w2bl {ob : Option γ} {P : γ → Prop} {f : γ → Option α} (h : wp ob P) (k : ∀ a, P a → w2 (f a) o' Q) : w2 (ob.bind f) o' Q := by
  obtain ⟨a, rfl, p⟩ := h
  exact k a p
theorem w2br {ob : Option γ} {P : γ → Prop} {f : γ → Option β} (h : wp ob P) (k : ∀ a, P a → w2 o (f a) Q) : w2 o (ob.bind f) Q := by
  obtain ⟨a, rfl, p⟩ := h
  exact k a p
theorem w2b {ob : Option γ} {ob' : Option δ} {P : γ → δ → Prop} {f : γ → Option α} {f' : δ → Option β} (h : w2 ob ob' P) (k : ∀ a b, P a b → w2 (f a) (f' b) Q) : w2 (ob.bind f) (ob'.bind f') Q := by
  obtain ⟨a, b, rfl, rfl, p⟩ := h
  exact k a b p
theorem w2i {c : Prop} [Decidable c] {A B : Option α} {A' B' : Option β} (h1 : c → w2 A A' Q) (h2 : ¬ c → w2 B B' Q) : w2 (if c then A else B) (if c then A' else B') Q := by
  by_cases h : c
  · rw [if_pos h, if_pos h]; exact h1 h
  · rw [if_neg h, if_neg h]; exact h2 h
theorem w2il {c : Prop} [Decidable c] {A B : Option α} (h1 : c → w2 A o' Q) (h2 : ¬ c → w2 B o' Q) : w2 (if c then A else B) o' Q := by
  by_cases h : c
  · rw [if_pos h]; exact h1 h
  · rw [if_neg h]; exact h2 h
theorem w2ir {c : Prop} [Decidable c] {A B : Option β} (h1 : c → w2 o A Q) (h2 : ¬ c → w2 o B Q) : w2 o (if c then A else B) Q := by
  by_cases h : c
  · rw [if_pos h]; exact h1 h
  · rw [if_neg h]; exact h2 h
theorem w2P {P : Prop} [Decidable P] {ob ob' : Option Int32} {A B : Option α} {A' B' : Option β} (h : ob = some (if P then nI 1 else nI 0)) (h' : ob' = some (if P then nI 1 else nI 0)) (k0 : ¬ P → w2 A A' Q) (k1 : P → w2 B B' Q) : w2 (ob.bind fun v => if v = 0 then A else B) (ob'.bind fun v => if v = 0 then A' else B') Q := by
  subst h
  subst h'
  by_cases c : P
  · rw [if_pos c]
    show w2 (if nI 1 = 0 then A else B) (if nI 1 = 0 then A' else B') Q
    rw [if_neg (by decide), if_neg (by decide)]; exact k1 c
  · rw [if_neg c]
    show w2 (if nI 0 = 0 then A else B) (if nI 0 = 0 then A' else B') Q
    rw [if_pos (by decide), if_pos (by decide)]; exact k0 c
theorem w2Pl {P : Prop} [Decidable P] {ob : Option Int32} {A B : Option α} (h : ob = some (if P then nI 1 else nI 0)) (k0 : ¬ P → w2 A o' Q) (k1 : P → w2 B o' Q) : w2 (ob.bind fun v => if v = 0 then A else B) o' Q := by
  subst h
  by_cases c : P
  · rw [if_pos c]
    show w2 (if nI 1 = 0 then A else B) o' Q
    rw [if_neg (by decide)]; exact k1 c
  · rw [if_neg c]
    show w2 (if nI 0 = 0 then A else B) o' Q
    rw [if_pos (by decide)]; exact k0 c
theorem w2Pr {P : Prop} [Decidable P] {ob : Option Int32} {A B : Option β} (h : ob = some (if P then nI 1 else nI 0)) (k0 : ¬ P → w2 o A Q) (k1 : P → w2 o B Q) : w2 o (ob.bind fun v => if v = 0 then A else B) Q := by
  subst h
  by_cases c : P
  · rw [if_pos c]
    show w2 o (if nI 1 = 0 then A else B) Q
    rw [if_neg (by decide)]; exact k1 c
  · rw [if_neg c]
    show w2 o (if nI 0 = 0 then A else B) Q
    rw [if_pos (by decide)]; exact k0 c
end W2
section TESTS
variable {s t : sg} {b R r : Nat} {g : Nat → Int32} {x lo hi : Int32} {l u : Int64}
theorem within_eq : C_within x lo hi s = some (if ¬ x < lo ∧ ¬ hi < x then nI 1 else nI 0) := by
  unfold C_within
  by_cases c : x < lo
  · rw [if_pos c, if_neg (fun w => w.1 c)]
  · rw [if_neg c]
    by_cases d : hi < x
    · rw [if_pos d, if_neg (fun w => w.2 d)]
    · rw [if_neg d, if_pos ⟨c, d⟩]
theorem inP (hl : l = lo.toInt64) (hu : u = hi.toInt64) : M_in x.toInt64 l u t = some (if ¬ x < lo ∧ ¬ hi < x then nI 1 else nI 0) := by
  rw [in_eq hl hu]
  by_cases c : x < lo
  · rw [if_pos c, if_neg (fun w => w.1 c)]
  · rw [if_neg c]
    by_cases d : hi < x
    · rw [if_pos d, if_neg (fun w => w.2 d)]
    · rw [if_neg d, if_pos ⟨c, d⟩]
theorem hasRoom_P (e : s b 0 = nI R) : H_hasRoom b x s = some (if ¬ x < nI 0 ∧ x < nI R then nI 1 else nI 0) := by
  unfold H_hasRoom
  rw [e]
  by_cases c : x < nI 0
  · rw [if_pos (show x < 0 from c), if_neg (fun w => w.1 c)]
  · rw [if_neg (show ¬ x < 0 from c)]
    by_cases d : x < nI R
    · rw [if_pos d, if_pos ⟨c, d⟩]
    · rw [if_neg d, if_neg (fun w => d w.2)]
theorem hasWall_P (e : s b 0 = nI R) : H_hasWall b x s = some (if ¬ x < nI 0 ∧ x < nI R - nI 1 then nI 1 else nI 0) := by
  unfold H_hasWall
  rw [e]
  by_cases c : x < nI 0
  · rw [if_pos (show x < 0 from c), if_neg (fun w => w.1 c)]
  · rw [if_neg (show ¬ x < 0 from c)]
    by_cases d : x < nI R - nI 1
    · rw [if_pos d, if_pos ⟨c, d⟩]
    · rw [if_neg d, if_neg (fun w => d w.2)]
theorem isRoom_P (e : t 10 1 = nI R) (hR : R ≤ 6) : M_isRoom x t = some (if ¬ x < nI 0 ∧ x < nI R then nI 1 else nI 0) := by
  unfold M_isRoom
  rw [e, inP (lo := nI 0) (hi := nI R - nI 1) (by decide) rfl]
  have h : (¬ nI R - nI 1 < x) ↔ x < nI R := by
    rw [Int32.lt_iff_toInt_lt, Int32.lt_iff_toInt_lt, pk_sub_toInt (by omega) (by decide), nI_toInt (by omega)]
    omega
  by_cases c : ¬ x < nI 0 ∧ x < nI R
  · rw [if_pos c, if_pos ⟨c.1, h.mpr c.2⟩]; rfl
  · rw [if_neg c, if_neg (fun w => c ⟨w.1, h.mp w.2⟩)]; rfl
theorem isWall_P (e : t 10 1 = nI R) (hR : R ≤ 6) : M_isWall x t = some (if ¬ x < nI 0 ∧ x < nI R - nI 1 then nI 1 else nI 0) := by
  unfold M_isWall
  rw [e, inP (lo := nI 0) (hi := nI R - nI 2) (by decide) rfl]
  have h : (¬ nI R - nI 2 < x) ↔ x < nI R - nI 1 := by
    rw [Int32.lt_iff_toInt_lt, Int32.lt_iff_toInt_lt, pk_sub_toInt (by omega) (by decide), pk_sub_toInt (by omega) (by decide)]
    omega
  by_cases c : ¬ x < nI 0 ∧ x < nI R - nI 1
  · rw [if_pos c, if_pos ⟨c.1, h.mpr c.2⟩]; rfl
  · rw [if_neg c, if_neg (fun w => c ⟨w.1, h.mp w.2⟩)]; rfl
theorem room_j (hR : R ≤ 6) (h : ¬ x < nI 0 ∧ x < nI R) : ∃ j, j < R ∧ x = nI j := by
  obtain ⟨j, hj, rfl⟩ := nI_of h.1
  exact ⟨j, (nI_ltI hj (by omega)).mp h.2, rfl⟩
theorem wall_j (hR : R ≤ 6) (h : ¬ x < nI 0 ∧ x < nI R - nI 1) : ∃ j, j + 1 < R ∧ x = nI j := by
  obtain ⟨j, hj, rfl⟩ := nI_of h.1
  exact ⟨j, (nI_m1 (by omega) hj).mp h.2, rfl⟩
theorem in_j {n : Nat} (hn : n < 2 ^ 31) (h : ¬ x < nI 0 ∧ ¬ nI n < x) : ∃ j, j ≤ n ∧ x = nI j := by
  obtain ⟨j, _, h2, h3⟩ := in_nI hn h (by decide)
  exact ⟨j, h2, h3⟩
theorem hasT_eq (hr : r < 6) : M_hasTongue (nI r) t = some (if 0 < pg t 0 (18 + r) then nI 1 else nI 0) := by
  unfold M_hasTongue
  rw [nI_add, midx_nI (by omega) (by decide)]
  have e : pg t 0 (18 + r) = t 11 (18 + r) := by unfold pg; rw [Nat.zero_add]
  rw [e]
  show (if 0 < t 11 (18 + r) then some (nI 1) else some (nI 0)) = _
  by_cases c : 0 < t 11 (18 + r)
  · rw [if_pos c, if_pos c]
  · rw [if_neg c, if_neg c]
theorem pg0 {i : Nat} : pg t 0 i = t 11 i := by unfold pg; rw [Nat.zero_add]
theorem pg_up0 {k : Nat} {v : Int32} : pg (up t 11 k v) 0 = gu (pg t 0) k v := by
  have h := @pg_up t 0 k v
  rwa [Nat.zero_add] at h
theorem puts_eq {j : Nat} {x3 x4 : Int32} (hj : j < 312) : M_puts (nI 1) (nI j) x3 x4 t = some (t 11 j + x4, up t 11 j (x3 - x4)) := by
  unfold M_puts
  rw [if_neg (by decide), midx_nI hj (by decide)]
  rfl
theorem puts_0 {x2 x3 x4 : Int32} : M_puts (nI 0) x2 x3 x4 t = some (-1, t) := by
  unfold M_puts
  rw [if_pos (by decide)]
theorem exch_eq {p n j : Nat} {v : Int32} (hj : j < n) (hn : n < 1000) : C_exchange p n (nI j) v s = some (s p j, up s p j v) := by
  unfold C_exchange
  rw [midx_nI hj (by omega)]
  rfl
end TESTS
/-! a house that is changed at one place -/
section HSET
variable {s s' : sg} {b R j : Nat} {g g' : Nat → Int32} {v : Int32}
theorem HR.e (H : HR s b g R) (h : ∀ i, i < 52 → g' i = g i) : HR s b g' R := by
  have h6 := H.r6
  refine ⟨h6, H.rm, H.on.k (fun q hq => h _ (by omega)), by rw [h 49 (by decide)]; exact H.hr, by rw [h 50 (by decide)]; exact H.bu, by rw [h 51 (by decide)]; exact H.sw, H.wm.k (fun q hq => h _ (by omega)), H.ls.k (fun q hq => h _ (by omega)), H.br.k (fun q hq => h _ (by omega)), H.to.k (fun q hq => h _ (by omega)) (fun q hq => h _ (by omega)), H.wa.k (fun q hq => h _ (by omega)), H.ou.k (fun q hq => h _ (by omega))⟩
theorem HR.set1 (H : HR s b g R) (hj : j < R) : HR (up s (b + 1) j v) b (gu g (6 * 0 + j) v) R := by
  have h6 := H.r6
  have hb : up s (b + 1) j v b = s b := up_off (by omega)
  have hp : ∀ i, 1 < i → up s (b + 1) j v (b + i) = s (b + i) := fun i hi => up_off (by omega)
  refine ⟨h6, by rw [hb]; exact H.rm, by rw [hb]; exact H.on.k (fun q hq => gu_ne (by omega)), by rw [hb, gu_ne (by omega)]; exact H.hr, by rw [hb, gu_ne (by omega)]; exact H.bu, by rw [hb, gu_ne (by omega)]; exact H.sw, fun q hq => ?_, ?_, ?_, ?_, ?_, ?_⟩
  · by_cases z : q = j
    · subst z
      rw [up_eq, show 0 + q = 6 * 0 + q by omega, gu_eq]
    · rw [up_k z, gu_ne (by omega)]; exact H.wm q hq
  · rw [hp 2 (by decide)]; exact H.ls.k (fun q hq => gu_ne (by omega))
  · rw [hp 3 (by decide)]; exact H.br.k (fun q hq => gu_ne (by omega))
  · rw [hp 4 (by decide), hp 5 (by decide)]; exact H.to.k (fun q hq => gu_ne (by omega)) (fun q hq => gu_ne (by omega))
  · rw [hp 6 (by decide)]; exact H.wa.k (fun q hq => gu_ne (by omega))
  · rw [hp 7 (by decide)]; exact H.ou.k (fun q hq => gu_ne (by omega))
theorem HR.set2 (H : HR s b g R) (hj : j < R) : HR (up s (b + 2) j v) b (gu g (6 * 1 + j) v) R := by
  have h6 := H.r6
  have hb : up s (b + 2) j v b = s b := up_off (by omega)
  have hp : ∀ i, i ≠ 2 → up s (b + 2) j v (b + i) = s (b + i) := fun i hi => up_off (by omega)
  refine ⟨h6, by rw [hb]; exact H.rm, by rw [hb]; exact H.on.k (fun q hq => gu_ne (by omega)), by rw [hb, gu_ne (by omega)]; exact H.hr, by rw [hb, gu_ne (by omega)]; exact H.bu, by rw [hb, gu_ne (by omega)]; exact H.sw, ?_, fun q hq => ?_, ?_, ?_, ?_, ?_⟩
  · rw [hp 1 (by decide)]; exact H.wm.k (fun q hq => gu_ne (by omega))
  · by_cases z : q = j
    · subst z
      rw [up_eq, show 6 + q = 6 * 1 + q by omega, gu_eq]
    · rw [up_k z, gu_ne (by omega)]; exact H.ls q hq
  · rw [hp 3 (by decide)]; exact H.br.k (fun q hq => gu_ne (by omega))
  · rw [hp 4 (by decide), hp 5 (by decide)]; exact H.to.k (fun q hq => gu_ne (by omega)) (fun q hq => gu_ne (by omega))
  · rw [hp 6 (by decide)]; exact H.wa.k (fun q hq => gu_ne (by omega))
  · rw [hp 7 (by decide)]; exact H.ou.k (fun q hq => gu_ne (by omega))
theorem HR.set3 (H : HR s b g R) (hj : j < R) : HR (up s (b + 3) j v) b (gu g (6 * 2 + j) v) R := by
  have h6 := H.r6
  have hb : up s (b + 3) j v b = s b := up_off (by omega)
  have hp : ∀ i, i ≠ 3 → up s (b + 3) j v (b + i) = s (b + i) := fun i hi => up_off (by omega)
  refine ⟨h6, by rw [hb]; exact H.rm, by rw [hb]; exact H.on.k (fun q hq => gu_ne (by omega)), by rw [hb, gu_ne (by omega)]; exact H.hr, by rw [hb, gu_ne (by omega)]; exact H.bu, by rw [hb, gu_ne (by omega)]; exact H.sw, ?_, ?_, fun q hq => ?_, ?_, ?_, ?_⟩
  · rw [hp 1 (by decide)]; exact H.wm.k (fun q hq => gu_ne (by omega))
  · rw [hp 2 (by decide)]; exact H.ls.k (fun q hq => gu_ne (by omega))
  · by_cases z : q = j
    · subst z
      rw [up_eq, show 12 + q = 6 * 2 + q by omega, gu_eq]
    · rw [up_k z, gu_ne (by omega)]; exact H.br q hq
  · rw [hp 4 (by decide), hp 5 (by decide)]; exact H.to.k (fun q hq => gu_ne (by omega)) (fun q hq => gu_ne (by omega))
  · rw [hp 6 (by decide)]; exact H.wa.k (fun q hq => gu_ne (by omega))
  · rw [hp 7 (by decide)]; exact H.ou.k (fun q hq => gu_ne (by omega))
/-- the tongue of room j: its kind -/
theorem HR.set4 {k : Nat} (H : HR s b g R) (hj : j < R) (hk : k ≤ 3) (hm : s (b + 5) j = g (24 + j)) : HR (up s (b + 4) j (nI k)) b (gu g (18 + j) (nI k + nI 1)) R := by
  have h6 := H.r6
  have hb : up s (b + 4) j (nI k) b = s b := up_off (by omega)
  have hp : ∀ i, i ≠ 4 → up s (b + 4) j (nI k) (b + i) = s (b + i) := fun i hi => up_off (by omega)
  refine ⟨h6, by rw [hb]; exact H.rm, by rw [hb]; exact H.on.k (fun q hq => gu_ne (by omega)), by rw [hb, gu_ne (by omega)]; exact H.hr, by rw [hb, gu_ne (by omega)]; exact H.bu, by rw [hb, gu_ne (by omega)]; exact H.sw, ?_, ?_, ?_, fun q hq => ?_, ?_, ?_⟩
  · rw [hp 1 (by decide)]; exact H.wm.k (fun q hq => gu_ne (by omega))
  · rw [hp 2 (by decide)]; exact H.ls.k (fun q hq => gu_ne (by omega))
  · rw [hp 3 (by decide)]; exact H.br.k (fun q hq => gu_ne (by omega))
  · rw [hp 5 (by decide)]
    obtain ⟨z1, z2, z3⟩ := H.to q hq
    by_cases z : q = j
    · subst z
      rw [up_eq, gu_eq, gu_ne (by omega)]
      refine ⟨⟨k + 1, by omega, nI_add k 1, ?_⟩, z2, fun _ => hm⟩
      rw [pk_sub (by omega)]; rfl
    · rw [up_k z, gu_ne (by omega), gu_ne (by omega)]
      exact ⟨z1, z2, z3⟩
  · rw [hp 6 (by decide)]; exact H.wa.k (fun q hq => gu_ne (by omega))
  · rw [hp 7 (by decide)]; exact H.ou.k (fun q hq => gu_ne (by omega))
/-- its mark -/
theorem HR.set5 {c : Nat} (H : HR s b g R) (hj : j < R) (hc : c ≤ 99) : HR (up s (b + 5) j (nI c)) b (gu g (24 + j) (nI c)) R := by
  have h6 := H.r6
  have hb : up s (b + 5) j (nI c) b = s b := up_off (by omega)
  have hp : ∀ i, i ≠ 5 → up s (b + 5) j (nI c) (b + i) = s (b + i) := fun i hi => up_off (by omega)
  refine ⟨h6, by rw [hb]; exact H.rm, by rw [hb]; exact H.on.k (fun q hq => gu_ne (by omega)), by rw [hb, gu_ne (by omega)]; exact H.hr, by rw [hb, gu_ne (by omega)]; exact H.bu, by rw [hb, gu_ne (by omega)]; exact H.sw, ?_, ?_, ?_, fun q hq => ?_, ?_, ?_⟩
  · rw [hp 1 (by decide)]; exact H.wm.k (fun q hq => gu_ne (by omega))
  · rw [hp 2 (by decide)]; exact H.ls.k (fun q hq => gu_ne (by omega))
  · rw [hp 3 (by decide)]; exact H.br.k (fun q hq => gu_ne (by omega))
  · rw [hp 4 (by decide)]
    obtain ⟨z1, z2, z3⟩ := H.to q hq
    by_cases z : q = j
    · subst z
      rw [up_eq, gu_eq, gu_ne (by omega)]
      exact ⟨z1, ⟨c, hc, rfl⟩, fun _ => rfl⟩
    · rw [up_k z, gu_ne (by omega), gu_ne (by omega)]
      exact ⟨z1, z2, z3⟩
  · rw [hp 6 (by decide)]; exact H.wa.k (fun q hq => gu_ne (by omega))
  · rw [hp 7 (by decide)]; exact H.ou.k (fun q hq => gu_ne (by omega))
theorem HR.set6 (H : HR s b g R) (hj : j + 1 < R) (hv : v = g' (36 + j) + nI 2) (hg : ∀ i, i ≠ 36 + j → g' i = g i) : HR (up s (b + 6) j v) b g' R := by
  have h6 := H.r6
  have hb : up s (b + 6) j v b = s b := up_off (by omega)
  have hp : ∀ i, i ≠ 6 → up s (b + 6) j v (b + i) = s (b + i) := fun i hi => up_off (by omega)
  refine ⟨h6, by rw [hb]; exact H.rm, by rw [hb]; exact H.on.k (fun q hq => hg _ (by omega)), by rw [hb, hg _ (by omega)]; exact H.hr, by rw [hb, hg _ (by omega)]; exact H.bu, by rw [hb, hg _ (by omega)]; exact H.sw, ?_, ?_, ?_, ?_, fun q hq => ?_, ?_⟩
  · rw [hp 1 (by decide)]; exact H.wm.k (fun q hq => hg _ (by omega))
  · rw [hp 2 (by decide)]; exact H.ls.k (fun q hq => hg _ (by omega))
  · rw [hp 3 (by decide)]; exact H.br.k (fun q hq => hg _ (by omega))
  · rw [hp 4 (by decide), hp 5 (by decide)]; exact H.to.k (fun q hq => hg _ (by omega)) (fun q hq => hg _ (by omega))
  · by_cases z : q = j
    · subst z
      rw [up_eq]; exact hv
    · rw [up_k z, hg _ (by omega)]; exact H.wa q hq
  · rw [hp 7 (by decide)]; exact H.ou.k (fun q hq => hg _ (by omega))
theorem HR.set7 (H : HR s b g R) (hj : j < 8) (hv : v = g' (41 + j) + nI 10) (hg : ∀ i, i ≠ 41 + j → g' i = g i) : HR (up s (b + 7) j v) b g' R := by
  have h6 := H.r6
  have hb : up s (b + 7) j v b = s b := up_off (by omega)
  have hp : ∀ i, i ≠ 7 → up s (b + 7) j v (b + i) = s (b + i) := fun i hi => up_off (by omega)
  refine ⟨h6, by rw [hb]; exact H.rm, by rw [hb]; exact H.on.k (fun q hq => hg _ (by omega)), by rw [hb, hg _ (by omega)]; exact H.hr, by rw [hb, hg _ (by omega)]; exact H.bu, by rw [hb, hg _ (by omega)]; exact H.sw, ?_, ?_, ?_, ?_, ?_, fun q hq => ?_⟩
  · rw [hp 1 (by decide)]; exact H.wm.k (fun q hq => hg _ (by omega))
  · rw [hp 2 (by decide)]; exact H.ls.k (fun q hq => hg _ (by omega))
  · rw [hp 3 (by decide)]; exact H.br.k (fun q hq => hg _ (by omega))
  · rw [hp 4 (by decide), hp 5 (by decide)]; exact H.to.k (fun q hq => hg _ (by omega)) (fun q hq => hg _ (by omega))
  · rw [hp 6 (by decide)]; exact H.wa.k (fun q hq => hg _ (by omega))
  · by_cases z : q = j
    · subst z
      rw [up_eq]; exact hv
    · rw [up_k z, hg _ (by omega)]; exact H.ou q hq
/-- the tongue is taken away -/
theorem HR.take (H : HR s b g R) (hj : j < R) : HR (up (up s (b + 4) j (-1)) b 1 (s b 1 &&& ((nI 1 <<< (nI j &&& 31)) ^^^ (-1)))) b (gu (gu (gu g (18 + j) (nI 0)) (24 + j) (nI 0)) (30 + j) (nI 0)) R := by
  have h6 := H.r6
  obtain ⟨m, h1, h2, h3⟩ := H.on
  have hne : ∀ i, i ≠ 18 + j → i ≠ 24 + j → i ≠ 30 + j → gu (gu (gu g (18 + j) (nI 0)) (24 + j) (nI 0)) (30 + j) (nI 0) i = g i := fun i q1 q2 q3 => by rw [gu_ne q3, gu_ne q2, gu_ne q1]
  have hb : ∀ k, k ≠ 1 → up (up s (b + 4) j (-1)) b 1 (s b 1 &&& ((nI 1 <<< (nI j &&& 31)) ^^^ (-1))) b k = s b k := fun k hk => by rw [up_k hk, up_p (by omega)]
  have hp : ∀ i, 1 ≤ i → i ≠ 4 → up (up s (b + 4) j (-1)) b 1 (s b 1 &&& ((nI 1 <<< (nI j &&& 31)) ^^^ (-1))) (b + i) = s (b + i) := fun i h0 hi => by rw [up_off (by omega), up_off (by omega)]
  have h4 : up (up s (b + 4) j (-1)) b 1 (s b 1 &&& ((nI 1 <<< (nI j &&& 31)) ^^^ (-1))) (b + 4) = up s (b + 4) j (-1) (b + 4) := up_off (by omega)
  refine ⟨h6, (hb 0 (by decide)).trans H.rm, ?_, ?_, ?_, ?_, ?_, ?_, ?_, fun q hq => ?_, ?_, ?_⟩
  · rw [up_eq, h2, bt_c m (p64 h6 h1) j (by omega)]
    refine ⟨clr m j, clr_lt R (by omega) m h1 j hj, rfl, fun q hq => ?_⟩
    rw [clr_bt m (p64 h6 h1) j (by omega) q (by omega)]
    by_cases z : q = j
    · subst z
      rw [if_pos rfl, gu_eq]
    · rw [if_neg z, hne _ (by omega) (by omega) (by omega)]; exact h3 q hq
  · rw [hb 2 (by decide), hne _ (by omega) (by omega) (by omega)]; exact H.hr
  · rw [hb 3 (by decide), hne _ (by omega) (by omega) (by omega)]; exact H.bu
  · rw [hb 4 (by decide), hne _ (by omega) (by omega) (by omega)]; exact H.sw
  · rw [hp 1 (by decide) (by decide)]; exact H.wm.k (fun q hq => hne _ (by omega) (by omega) (by omega))
  · rw [hp 2 (by decide) (by decide)]; exact H.ls.k (fun q hq => hne _ (by omega) (by omega) (by omega))
  · rw [hp 3 (by decide) (by decide)]; exact H.br.k (fun q hq => hne _ (by omega) (by omega) (by omega))
  · rw [h4, hp 5 (by decide) (by decide)]
    obtain ⟨z1, z2, z3⟩ := H.to q hq
    by_cases z : q = j
    · subst z
      rw [up_eq, gu_ne (by omega), gu_ne (by omega), gu_eq, gu_ne (by omega), gu_eq]
      exact ⟨⟨0, by decide, rfl, by decide⟩, ⟨0, by decide, rfl⟩, fun w => absurd w (by decide)⟩
    · rw [up_k z, hne _ (by omega) (by omega) (by omega), hne _ (by omega) (by omega) (by omega)]
      exact ⟨z1, z2, z3⟩
  · rw [hp 6 (by decide) (by decide)]; exact H.wa.k (fun q hq => hne _ (by omega) (by omega) (by omega))
  · rw [hp 7 (by decide) (by decide)]; exact H.ou.k (fun q hq => hne _ (by omega) (by omega) (by omega))
end HSET
end Q63
section Q64
/-! what class and reference hold in common -/
def offG (t t' : sg) : Prop := ∀ q k, ¬ (q = 11 ∧ (k < 52 ∨ 156 ≤ k)) → q ≠ 16 → q ≠ 18 → ¬ (q = 10 ∧ (k = 19 ∨ k = 20)) → t' q k = t q k
theorem offG.rf {t : sg} : offG t t := fun _ _ _ _ _ _ => rfl
theorem offG.tr {t t' t'' : sg} (h1 : offG t t') (h2 : offG t' t'') : offG t t'' := fun q k a b c d => (h2 q k a b c d).trans (h1 q k a b c d)
theorem offP.g {t t' : sg} (o : offP 0 t t') : offG t t' := fun q k a b _ _ => o q k (fun w => a ⟨w.1, by omega⟩) b
theorem offM.g {t t' : sg} (o : offM t t') : offG t t' := fun q k a b c d => o q k (fun w => a ⟨w.1, Or.inr w.2⟩) b c d
theorem offG.u {t : sg} {k : Nat} {v : Int32} (hk : k < 52) : offG t (up t 11 k v) := fun q j a _ _ _ => if_neg (fun w => a ⟨w.1, by omega⟩)
def enL : List Nat := [0, 5, 10, 14, 18, 22, 26, 29]
def leL : List Nat := [112, 108, 97, 105, 110, 113, 117, 105, 99, 107, 108, 97, 122, 121, 98, 101, 110, 116, 114, 111, 111, 109, 119, 97, 108, 108, 111, 117, 116]
def LT (t : sg) : Prop := (∀ j, j < 8 → t 14 j = nI (enL.getD j 0)) ∧ ∀ j, j < 29 → t 15 j = nI (leL.getD j 0)
def KP (s t : sg) (R : Nat) : Prop := ∀ k, k < 2 → (s 20 k = nI 0 ∧ t 19 k = nI 0) ∨ (s 20 k = nI 1 ∧ t 19 k = nI 1 ∧ HR s (37 + 8 * k) (pg t (52 * (k + 1))) R)
def TP (s t : sg) : Prop := ∃ L : Nat, L ≤ 160 ∧ s 27 1 = nI L ∧ t 10 8 = nI L ∧ ∀ i, i < L → ∃ c : Nat, c < 128 ∧ s 28 i = nI c ∧ t 13 i = nI c
def FE (s t : sg) (R : Nat) : Prop := ∃ m : Nat, m ≤ 6 ∧ s 23 3 = nI m ∧ t 10 22 = nI m ∧ ∀ i, i < m → (s 24 i = t 17 (3 * i) ∧ s 25 i = t 17 (3 * i + 1) ∧ s 26 i = t 17 (3 * i + 2)) ∧ ∃ w : Nat, w < R ∧ s 25 i = nI w
def SH (s t : sg) : Prop := ∀ k, k < 4 → ((s (133 + 2 * k) 0 = -1 ∧ t 20 k = -4) ∨ ∃ l : Nat, l < 3 ∧ s (133 + 2 * k) 0 = nI l ∧ t 20 k = nI l) ∧ ∃ n : Nat, n ≤ 40 ∧ s (133 + 2 * k) 1 = nI n ∧ t 21 k = nI n ∧ ∀ i, i < n → s (133 + 2 * k + 1) i = t 22 (40 * k + i)
def RG (s t : sg) (R : Nat) : Prop := t 10 1 = nI R ∧ HR s 11 (pg t 0) R ∧ KP s t R ∧ TP s t ∧ FE s t R ∧ SH s t ∧ s 10 7 = t 10 28 ∧ LT t
def RF (s t : sg) : Prop := (∃ R, RG s t R) ∧ IC s ∧ IM t
theorem KP.k {s t s' t' : sg} {R : Nat} (h : KP s t R) (o20 : s' 20 = s 20) (o : ∀ p, 37 ≤ p → p ≤ 52 → s' p = s p) (o19 : t' 19 = t 19) (o11 : ∀ k, 52 ≤ k → k < 156 → t' 11 k = t 11 k) : KP s' t' R := fun k hk => by
  rw [o20, o19]
  rcases h k hk with q | ⟨q1, q2, q3⟩
  · exact Or.inl q
  · refine Or.inr ⟨q1, q2, ?_⟩
    refine HR.e (q3.off (fun p h1 h2 => o p (by omega) (by omega))) (fun i hi => ?_)
    unfold pg
    exact o11 _ (by omega) (by omega)
theorem TP.k {s t s' t' : sg} (h : TP s t) (o27 : s' 27 1 = s 27 1) (o28 : s' 28 = s 28) (o10 : t' 10 8 = t 10 8) (o13 : t' 13 = t 13) : TP s' t' := by
  obtain ⟨L, h1, h2, h3, h4⟩ := h
  refine ⟨L, h1, o27.trans h2, o10.trans h3, fun i hi => ?_⟩
  rw [o28, o13]
  exact h4 i hi
theorem FE.k {s t s' t' : sg} {R : Nat} (h : FE s t R) (o23 : s' 23 = s 23) (o24 : s' 24 = s 24) (o25 : s' 25 = s 25) (o26 : s' 26 = s 26) (o10 : t' 10 22 = t 10 22) (o17 : t' 17 = t 17) : FE s' t' R := by
  obtain ⟨m, h1, h2, h3, h4⟩ := h
  refine ⟨m, h1, by rw [o23]; exact h2, o10.trans h3, fun i hi => ?_⟩
  rw [o24, o25, o26, o17]
  exact h4 i hi
theorem SH.k {s t s' t' : sg} (h : SH s t) (o : ∀ p, 133 ≤ p → p ≤ 140 → s' p = s p) (o20 : t' 20 = t 20) (o21 : t' 21 = t 21) (o22 : t' 22 = t 22) : SH s' t' := fun k hk => by
  rw [o (133 + 2 * k) (by omega) (by omega), o (133 + 2 * k + 1) (by omega) (by omega), o20, o21, o22]
  exact h k hk
theorem LT.k {t t' : sg} (h : LT t) (o14 : t' 14 = t 14) (o15 : t' 15 = t 15) : LT t' := by
  unfold LT
  rw [o14, o15]
  exact h
section RGF
variable {s t s' t' : sg} {R : Nat} {x x1 x2 x3 x4 x5 : Int32}
theorem RG.r (G : RG s t R) : t 10 1 = nI R := G.1
theorem RG.h (G : RG s t R) : HR s 11 (pg t 0) R := G.2.1
theorem RG.kp (G : RG s t R) : KP s t R := G.2.2.1
theorem RG.tp (G : RG s t R) : TP s t := G.2.2.2.1
theorem RG.fe (G : RG s t R) : FE s t R := G.2.2.2.2.1
theorem RG.sh (G : RG s t R) : SH s t := G.2.2.2.2.2.1
theorem RG.tn (G : RG s t R) : s 10 7 = t 10 28 := G.2.2.2.2.2.2.1
theorem RG.lt (G : RG s t R) : LT t := G.2.2.2.2.2.2.2
theorem offG.fn (o : offG t t') {q : Nat} (h : q ≠ 11 ∧ q ≠ 16 ∧ q ≠ 18 ∧ q ≠ 10) : t' q = t q := by
  funext k
  exact o q k (fun w => h.1 w.1) h.2.1 h.2.2.1 (fun w => h.2.2.2 w.1)
theorem offG.ob (o : offG t t') {k : Nat} (h : k ≠ 19 ∧ k ≠ 20) : t' 10 k = t 10 k := o 10 k (by omega) (by decide) (by decide) (by omega)
theorem RG.fr (G : RG s t R) (oS : ∀ p, ¬ (11 ≤ p ∧ p ≤ 18) → ¬ (53 ≤ p ∧ p ≤ 132) → s' p = s p) (oT : offG t t') (H : HR s' 11 (pg t' 0) R) : RG s' t' R := by
  have o : ∀ p, p < 11 ∨ (18 < p ∧ p < 53) ∨ 132 < p → s' p = s p := fun p hp => oS p (by omega) (by omega)
  refine ⟨(oT.ob (by decide)).trans G.r, H, ?_, ?_, ?_, ?_, ?_, ?_⟩
  · exact G.kp.k (o 20 (by decide)) (fun p _ _ => o p (by omega)) (oT.fn (by decide)) (fun k _ _ => oT 11 k (by omega) (by decide) (by decide) (by omega))
  · exact G.tp.k (by rw [o 27 (by decide)]) (o 28 (by decide)) (oT.ob (by decide)) (oT.fn (by decide))
  · exact G.fe.k (o 23 (by decide)) (o 24 (by decide)) (o 25 (by decide)) (o 26 (by decide)) (oT.ob (by decide)) (oT.fn (by decide))
  · exact G.sh.k (fun p _ _ => o p (by omega)) (oT.fn (by decide)) (oT.fn (by decide)) (oT.fn (by decide))
  · rw [o 10 (by decide), oT.ob (by decide)]; exact G.tn
  · exact G.lt.k (oT.fn (by decide)) (oT.fn (by decide))
/-- questions change nothing of it -/
theorem RG.qu (G : RG s t R) (oS : offT s s') (oT : offM t t') : RG s' t' R := by
  refine G.fr (fun p _ h2 => oS p h2) oT.g ?_
  refine HR.e (G.h.off (fun p h1 h2 => oS p (by omega))) (fun i hi => ?_)
  rw [pg0, pg0]
  exact oT 11 i (by omega) (by decide) (by decide) (by omega)
def JQ (a b : Int32 × sg) : Prop := a.1 = b.1 ∧ ∃ R, RG a.2 b.2 R
def JF (a b : Int32 × sg) : Prop := a.1 = b.1 ∧ RF a.2 b.2
theorem J.fin {o o' : Option (Int32 × sg)} {P P' : Int32 × sg → Prop} (h : w2 o o' JQ) (h1 : wp o P) (k1 : ∀ a, P a → IC a.2) (h2 : wp o' P') (k2 : ∀ b, P' b → IM b.2) : w2 o o' JF :=
  (h.add h1 h2).c (fun a b q => ⟨q.1.1, q.1.2, k1 a q.2.1, k2 b q.2.2⟩)
theorem up_comm {p q i j : Nat} {v w : Int32} (h : p ≠ q) : up (up s p i v) q j w = up (up s q j w) p i v := by
  funext a k
  unfold up
  by_cases c1 : a = q ∧ j = k ∨ a = q ∧ k = j
  · have c : a = q ∧ k = j := by omega
    rw [if_pos c, if_neg (fun z => h (z.1.symm.trans c.1)), if_pos c]
  · have c : ¬ (a = q ∧ k = j) := by omega
    rw [if_neg c]
    by_cases d : a = p ∧ k = i
    · rw [if_pos d, if_pos d]
    · rw [if_neg d, if_neg d, if_neg c]
theorem gu_comm {g : Nat → Int32} {i j : Nat} {v w : Int32} (h : i ≠ j) : gu (gu g i v) j w = gu (gu g j w) i v := by
  funext a
  unfold gu
  by_cases c : a = j
  · rw [if_pos c, if_neg (fun z => h (z.symm.trans c)), if_pos c]
  · rw [if_neg c, if_neg c]
theorem a47 : M_alter_47 x1 x2 x3 t = some (-1, t) := by
  unfold M_alter_47 M_alter_48
  rw [puts_0]; rfl
theorem J_alter (F : RF s t) : w2 (C_alter x1 x2 x3 s) (M_alter x1 x2 x3 t) JF := by
  obtain ⟨⟨R, G⟩, I, M⟩ := F
  refine J.fin ?_ (W_C_alter I) (fun _ h => h.1) (V_M_alter M) (fun _ h => h.1)
  have H := G.h
  have h6 := H.r6
  have no : w2 (some ((-1 : Int32), s)) (some ((-1 : Int32), t)) JQ := w2s ⟨rfl, R, G⟩
  unfold C_alter M_alter
  refine w2P (hasRoom_P H.rm) (isRoom_P G.r h6) (fun _ => by rw [a47]; exact no) (fun c1 => ?_)
  obtain ⟨j, hj, rfl⟩ := room_j h6 c1
  refine w2P within_eq (inP (by decide) (by decide)) (fun _ => by rw [a47]; exact no) (fun c2 => ?_)
  obtain ⟨i, hi, rfl⟩ := in_j (by decide) c2
  have fin : ∀ i, i ≤ 2 → HR (up s (12 + i) j x3) 11 (gu (pg t 0) (6 * i + j) x3) R → s (12 + i) j = pg t 0 (6 * i + j) → w2 (C_alter_79 (nI j) x3 (12 + i) s) (M_alter_48 (nI j) (nI i) x3 (nI 1) t) JQ := fun i hi H' e => by
    unfold C_alter_79 M_alter_48
    rw [exch_eq (by omega) (by decide), pk_mul, nI_add, puts_eq (by omega), sub_nI0, add_nI0]
    refine w2s ⟨?_, R, ?_⟩
    · show s (12 + i) j = t 11 (6 * i + j)
      rw [e, pg0]
    · refine G.fr (fun p q1 q2 => up_off (by omega)) (offG.u (by omega)) ?_
      rw [pg_up0]; exact H'
  have hi' : i = 0 ∨ i = 1 ∨ i = 2 := by omega
  rcases hi' with rfl | rfl | rfl
  · rw [if_pos (by decide), if_pos (by decide)]
    unfold C_alter_35 M_alter_37
    refine w2P within_eq (inP (by decide) (by decide)) (fun _ => by rw [a47]; exact no) (fun _ => ?_)
    rw [if_pos (by decide)]
    exact fin 0 (by decide) (H.set1 hj) (H.wm j hj)
  · rw [if_neg (by decide), if_neg (by decide)]
    unfold C_alter_35 M_alter_37
    refine w2P within_eq (inP (by decide) (by decide)) (fun _ => by rw [a47]; exact no) (fun _ => ?_)
    rw [if_neg (by decide), if_pos (by decide)]
    exact fin 1 (by decide) (H.set2 hj) (H.ls j hj)
  · rw [if_neg (by decide), if_neg (by decide)]
    unfold C_alter_35 M_alter_37
    refine w2P within_eq (inP (by decide) (by decide)) (fun _ => by rw [a47]; exact no) (fun _ => ?_)
    rw [if_neg (by decide), if_neg (by decide)]
    exact fin 2 (by decide) (H.set3 hj) (H.br j hj)
theorem J_fit (F : RF s t) : w2 (C_fit x1 x2 x3 s) (M_fit x1 x2 x3 t) JF := by
  obtain ⟨⟨R, G⟩, I, M⟩ := F
  refine J.fin ?_ (W_C_fit I) (fun _ h => h.1) (V_M_fit M) (fun _ h => h.1)
  have H := G.h
  have h6 := H.r6
  have no : w2 (some ((-1 : Int32), s)) (some ((-1 : Int32), t)) JQ := w2s ⟨rfl, R, G⟩
  unfold C_fit M_fit
  refine w2P (hasRoom_P H.rm) (isRoom_P G.r h6) (fun _ => no) (fun c1 => ?_)
  obtain ⟨j, hj, rfl⟩ := room_j h6 c1
  refine w2P within_eq (inP (by decide) (by decide)) (fun _ => no) (fun c2 => ?_)
  obtain ⟨k, hk, rfl⟩ := in_j (by decide) c2
  refine w2P within_eq (inP (by decide) (by decide)) (fun _ => no) (fun c3 => ?_)
  obtain ⟨c, hc, rfl⟩ := in_j (by decide) c3
  have fin : ∀ y y' : Int32, y = y' → w2 (C_fit_57 (nI j) (nI k) (nI c) y s) (M_fit_58 (nI j) (nI k) (nI c) y' t) JQ := fun y y' e => by
    unfold C_fit_57 M_fit_58
    refine w2l rfl (by omega) (by decide) (w2sl (w2l rfl (by omega) (by decide) (w2sl ?_)))
    refine w2r (nI_add 18 j) (by omega) (by decide) (w2sr (w2r (nI_add 24 j) (by omega) (by decide) (w2sr ?_)))
    refine w2s ⟨e, R, ?_⟩
    refine G.fr (fun p q1 q2 => ?_) (offG.tr (offG.u (by omega)) (offG.u (by omega))) ?_
    · show up (up s 15 j (nI k)) 16 j (nI c) p = s p
      rw [up_off (by omega), up_off (by omega)]
    · show HR (up (up s 15 j (nI k)) 16 j (nI c)) 11 (pg (up (up t 11 (18 + j) (nI k + nI 1)) 11 (24 + j) (nI c)) 0) R
      rw [pg_up0, pg_up0, up_comm (by decide), gu_comm (by omega)]
      have H5 : HR (up s 16 j (nI c)) 11 (gu (pg t 0) (24 + j) (nI c)) R := H.set5 hj hc
      exact H5.set4 hj hk (by rw [gu_eq]; exact up_eq)
  refine w2P (hasTongue_eq H hj) (hasT_eq (by omega)) (fun _ => fin _ _ rfl) (fun c4 => ?_)
  refine w2l rfl (by omega) (by decide) (w2r (nI_add 18 j) (by omega) (by decide) (fin _ _ ?_))
  obtain ⟨⟨k', _, e1, e2⟩, _⟩ := H.to j hj
  rw [pg0] at e1
  rw [e1]
  exact e2
theorem take_eq {b j : Nat} (hj : j < 6) : H_takeTongue b (nI j) s = some (up (up s (b + 4) j (-1)) b 1 (s b 1 &&& ((nI 1 <<< (nI j &&& 31)) ^^^ (-1)))) := by
  unfold H_takeTongue
  rw [midx_nI hj (by decide)]
  show some (up (up s (b + 4) j (-1)) b 1 ((up s (b + 4) j (-1)) b 1 &&& ((nI 1 <<< (nI j &&& 31)) ^^^ (-1)))) = _
  rw [up_p (by omega)]
theorem strips_eq {p j : Nat} (hp : p + 52 ≤ 312) (hj : j < 6) : M_stripsOn (nI p) (nI j) t = some (up (up (up t 11 (p + (18 + j)) (nI 0)) 11 (p + (24 + j)) (nI 0)) 11 (p + (30 + j)) (nI 0)) := by
  unfold M_stripsOn
  rw [ix3, ix3, ix3, midx_nI (by omega) (by decide), midx_nI (by omega) (by decide), midx_nI (by omega) (by decide)]
  rfl
theorem J_strip (F : RF s t) : w2 (C_strip x1 s) (M_strip x1 t) JF := by
  obtain ⟨⟨R, G⟩, I, M⟩ := F
  refine J.fin ?_ (W_C_strip I) (fun _ h => h.1) (V_M_strip M) (fun _ h => h.1)
  have H := G.h
  have h6 := H.r6
  unfold C_strip M_strip
  refine w2P (hasRoom_P H.rm) (isRoom_P G.r h6) (fun _ => w2s ⟨rfl, R, G⟩) (fun c1 => ?_)
  obtain ⟨j, hj, rfl⟩ := room_j h6 c1
  refine w2P (hasTongue_eq H hj) (hasT_eq (by omega)) (fun _ => w2s ⟨rfl, R, G⟩) (fun c4 => ?_)
  refine w2l rfl (by omega) (by decide) (w2r (nI_add 18 j) (by omega) (by decide) ?_)
  rw [take_eq (by omega), strips_eq (by decide) (by omega)]
  refine w2s ⟨?_, R, ?_⟩
  · obtain ⟨⟨k', _, e1, e2⟩, _⟩ := H.to j hj
    rw [pg0] at e1
    show s 15 j = t 11 (18 + j) - nI 1
    rw [e1]
    exact e2
  · refine G.fr (fun p q1 q2 => ?_) (offG.tr (offG.tr (offG.u (by omega)) (offG.u (by omega))) (offG.u (by omega))) ?_
    · show up (up s 15 j (-1)) 11 1 _ p = s p
      rw [up_off (by omega), up_off (by omega)]
    · show HR _ 11 (pg (up (up (up t 11 (0 + (18 + j)) (nI 0)) 11 (0 + (24 + j)) (nI 0)) 11 (0 + (30 + j)) (nI 0)) 0) R
      rw [pg_up, pg_up, pg_up]
      exact H.take hj
/-- marks, told to both -/
theorem marks_2 {b : Nat} (H : HR s b (pg t 0) R) (e : t 10 1 = nI R) : (∃ v : Int32, ¬ v = 0 ∧ v < 0 ∧ H_markRefused b x1 x2 s = some v ∧ M_marks x1 x2 t = some (v, t)) ∨ (∃ j c : Nat, j < R ∧ c ≤ 99 ∧ x1 = nI j ∧ x2 = nI c ∧ 0 < pg t 0 (18 + j) ∧ H_markRefused b x1 x2 s = some (nI 0) ∧ M_marks x1 x2 t = some (t 11 (24 + j), up t 11 (24 + j) (nI c))) := by
  have h6 := H.r6
  unfold H_markRefused M_marks
  rw [hasRoom_P H.rm, isRoom_P e h6]
  by_cases c1 : ¬ x1 < nI 0 ∧ x1 < nI R
  · rw [if_pos c1]
    obtain ⟨j, hj, rfl⟩ := room_j h6 c1
    by_cases c2 : ¬ x2 < nI 0 ∧ ¬ nI 99 < x2
    · obtain ⟨c, hc, rfl⟩ := in_j (by decide) c2
      by_cases c3 : 0 < pg t 0 (18 + j)
      · refine Or.inr ⟨j, c, hj, hc, rfl, rfl, c3, ?_, ?_⟩
        · show (C_within (nI c) (nI 0) (nI 99) s).bind _ = _
          rw [within_eq, if_pos c2]
          show (H_hasTongue b (nI j) s).bind _ = _
          rw [hasTongue_eq H hj, if_pos c3]; rfl
        · show (M_in (nI c).toInt64 (0 : Int64) (99 : Int64) t).bind _ = _
          rw [inP (lo := nI 0) (hi := nI 99) (by decide) (by decide), if_pos c2]
          show (M_hasTongue (nI j) t).bind _ = _
          rw [hasT_eq (by omega), if_pos c3]
          show (M_puts (nI 1) (nI 24 + nI j) (nI c) (nI 0) t).bind _ = _
          rw [nI_add, puts_eq (by omega), add_nI0, sub_nI0]; rfl
      · refine Or.inl ⟨-2, by decide, by decide, ?_, ?_⟩
        · show (C_within (nI c) (nI 0) (nI 99) s).bind _ = _
          rw [within_eq, if_pos c2]
          show (H_hasTongue b (nI j) s).bind _ = _
          rw [hasTongue_eq H hj, if_neg c3]; rfl
        · show (M_in (nI c).toInt64 (0 : Int64) (99 : Int64) t).bind _ = _
          rw [inP (lo := nI 0) (hi := nI 99) (by decide) (by decide), if_pos c2]
          show (M_hasTongue (nI j) t).bind _ = _
          rw [hasT_eq (by omega), if_neg c3]; rfl
    · refine Or.inl ⟨-1, by decide, by decide, ?_, ?_⟩
      · show (C_within x2 (nI 0) (nI 99) s).bind _ = _
        rw [within_eq, if_neg c2]; rfl
      · show (M_in x2.toInt64 (0 : Int64) (99 : Int64) t).bind _ = _
        rw [inP (lo := nI 0) (hi := nI 99) (by decide) (by decide), if_neg c2]; rfl
  · rw [if_neg c1]
    exact Or.inl ⟨-1, by decide, by decide, rfl, rfl⟩
theorem J_mark (F : RF s t) : w2 (C_mark x1 x2 s) (M_mark x1 x2 t) JF := by
  obtain ⟨⟨R, G⟩, I, M⟩ := F
  refine J.fin ?_ (W_C_mark I) (fun _ h => h.1) (V_M_mark M) (fun _ h => h.1)
  have H := G.h
  have h6 := H.r6
  unfold C_mark M_mark
  rcases marks_2 (x1 := x1) (x2 := x2) H G.r with ⟨v, h1, h2, e1, e2⟩ | ⟨j, c, hj, hc, rfl, rfl, c3, e1, e2⟩
  · rw [e1, e2]
    refine w2sl (w2sr ?_)
    rw [if_neg h1]
    exact w2s ⟨rfl, R, G⟩
  · rw [e1, e2]
    refine w2sl (w2sr ?_)
    rw [if_pos (by decide), exch_eq (by omega) (by decide)]
    refine w2s ⟨?_, R, ?_⟩
    · show s 16 j = t 11 (24 + j)
      obtain ⟨_, _, z⟩ := H.to j hj
      have z' := z c3
      rw [pg0] at z'
      exact z'
    · refine G.fr (fun p q1 q2 => up_off (by omega)) (offG.u (by omega)) ?_
      rw [pg_up0]
      exact H.set5 hj hc
theorem sub_add (x y : Int32) : x = x - y + y := (Int32.sub_add_cancel x y).symm
theorem J_lag (F : RF s t) : w2 (C_lag x1 x2 s) (M_lag x1 x2 t) JF := by
  obtain ⟨⟨R, G⟩, I, M⟩ := F
  refine J.fin ?_ (W_C_lag I) (fun _ h => h.1) (V_M_lag M) (fun _ h => h.1)
  have H := G.h
  have h6 := H.r6
  have no : w2 (some ((-1 : Int32), s)) (M_lag_25 x1 x2 t) JQ := by
    unfold M_lag_25 M_lag_26
    rw [puts_0]
    exact w2s ⟨rfl, R, G⟩
  unfold C_lag M_lag
  refine w2P (hasWall_P H.rm) (isWall_P G.r h6) (fun _ => no) (fun c1 => ?_)
  refine w2P within_eq (inP (by decide) (by decide)) (fun _ => no) (fun c2 => ?_)
  obtain ⟨j, hj, rfl⟩ := wall_j h6 c1
  unfold M_lag_26
  rw [exch_eq (by omega) (by decide), nI_add, puts_eq (by omega)]
  refine w2s ⟨?_, R, ?_⟩
  · show s 17 j = t 11 (36 + j) + nI 2
    have h := H.wa j hj
    rw [pg0] at h
    exact h
  · refine G.fr (fun p q1 q2 => up_off (by omega)) (offG.u (by omega)) ?_
    rw [pg_up0]
    exact H.set6 hj (by rw [gu_eq]; exact sub_add _ _) (fun i hi => gu_ne hi)
theorem J_sky (F : RF s t) : w2 (C_sky x1 x2 s) (M_sky x1 x2 t) JF := by
  obtain ⟨⟨R, G⟩, I, M⟩ := F
  refine J.fin ?_ (W_C_sky I) (fun _ h => h.1) (V_M_sky M) (fun _ h => h.1)
  have H := G.h
  have h6 := H.r6
  have no : w2 (some ((-1 : Int32), s)) (M_sky_29 x1 x2 t) JQ := by
    unfold M_sky_29 M_sky_30
    rw [puts_0]
    exact w2s ⟨rfl, R, G⟩
  unfold C_sky M_sky
  refine w2P within_eq (inP (by decide) (by decide)) (fun _ => no) (fun c1 => ?_)
  refine w2P within_eq (inP (by decide) (by decide)) (fun _ => no) (fun c2 => ?_)
  obtain ⟨j, hj, rfl⟩ := in_j (by decide) c1
  unfold M_sky_30
  rw [exch_eq (by omega) (by decide), nI_add, puts_eq (by omega)]
  refine w2s ⟨?_, R, ?_⟩
  · show s 18 j = t 11 (41 + j) + nI 10
    have h := H.ou j (by omega)
    rw [pg0] at h
    exact h
  · refine G.fr (fun p q1 q2 => up_off (by omega)) (offG.u (by omega)) ?_
    rw [pg_up0]
    exact H.set7 (by omega) (by rw [gu_eq]; exact sub_add _ _) (fun i hi => gu_ne hi)
end RGF
end Q64
section Q65
/-! calls that change something, told to both -/
section HRS
variable {s t : sg} {b R : Nat} {g : Nat → Int32} {x x1 x2 x3 x4 : Int32}
theorem hoursV_49 (hR : R ≤ 6) : ∀ (n h : Nat) (g : Nat → Int32), g 49 = nI h → hoursV R n g 49 = nI (h + n)
  | 0, h, g, e => e
  | n + 1, h, g, e => by rw [hoursV, hoursV_49 hR n (h + 1) _ (nextV_49 hR e), show h + 1 + n = h + (n + 1) by omega]
theorem X_ph7 {N : Nat} (hN : N < 1000) : ∀ (n r fu : Nat) (s : sg) (g : Nat → Int32) (h : Nat), HR s b g R → g 49 = nI h → h + n < 2 ^ 29 → r + n = N → n < fu → wp (H_passHours_7 b (nI N) x2 fu (nI r) s) (fun v => HR v.2 b (hoursV R n g) R ∧ offH b s v.2 ∧ v.1 = hoursV R n g 50 - x2)
  | n, r, 0, s, g, h, H, e, hh, hr, hf => absurd hf (by omega)
  | n, r, fu + 1, s, g, h, H, e, hh, hr, hf => by
    rw [H_passHours_7]
    refine wi (fun c => ?_) (fun c => ?_)
    · rw [nI_ltI (by omega) (by omega)] at c
      obtain ⟨n, rfl⟩ : ∃ m, n = m + 1 := ⟨n - 1, by omega⟩
      refine wb (X_passHour H e (by omega)) (fun s1 h1 => ?_)
      rw [nI_add]
      exact wc (X_ph7 hN n (r + 1) fu s1 _ (h + 1) h1.1 (nextV_49 H.r6 e) (by omega) (by omega) (by omega)) (fun v hv => ⟨hv.1, h1.2.tr hv.2.1, hv.2.2⟩)
    · rw [nI_ltI (by omega) (by omega)] at c
      obtain rfl : n = 0 := by omega
      refine ws ⟨H, offH.rf, ?_⟩
      show s b 3 - x2 = g 50 - x2
      rw [H.bu.1]
theorem X_passHours {N h : Nat} (hN : N < 1000) (H : HR s b g R) (e : g 49 = nI h) (hh : h < 2 ^ 28) : wp (H_passHours b (nI N) s) (fun v => HR v.2 b (hoursV R N g) R ∧ offH b s v.2 ∧ v.1 = hoursV R N g 50 - g 50) := by
  unfold H_passHours
  rw [H.bu.1]
  exact X_ph7 hN N 0 FU s g h H e (by omega) (by omega) (by show N < 100000; omega)
theorem Y_h42 {N : Nat} (hN : N < 1000) (hR : R ≤ 6) : ∀ (n r fu : Nat) (t : sg) (h : Nat), t 10 1 = nI R → pg t 0 49 = nI h → h + n < 2 ^ 29 → r + n = N → n < fu → wp (M_hours_42 (nI N) x2 fu (nI r) t) (fun v => pg v.2 0 = hoursV R n (pg t 0) ∧ offP 0 t v.2 ∧ v.1 = hoursV R n (pg t 0) 50 - x2)
  | n, r, 0, t, h, e1, e, hh, hr, hf => absurd hf (by omega)
  | n, r, fu + 1, t, h, e1, e, hh, hr, hf => by
    rw [M_hours_42]
    refine wi (fun c => ?_) (fun c => ?_)
    · rw [nI_ltI (by omega) (by omega)] at c
      obtain ⟨n, rfl⟩ : ∃ m, n = m + 1 := ⟨n - 1, by omega⟩
      refine wb (Y_goesOn (by decide) hR e1 e (by omega)) (fun t1 h1 => ?_)
      rw [nI_add]
      refine wc (Y_h42 hN hR n (r + 1) fu t1 (h + 1) ((h1.2 10 1 (by omega) (by decide)).trans e1) (by rw [h1.1]; exact nextV_49 hR e) (by omega) (by omega) (by omega)) (fun v hv => ?_)
      rw [h1.1] at hv
      exact ⟨hv.1, h1.2.tr hv.2.1, hv.2.2⟩
    · rw [nI_ltI (by omega) (by omega)] at c
      obtain rfl : n = 0 := by omega
      refine wm rfl (by decide) (by decide) (ws ⟨rfl, offP.rf, ?_⟩)
      show t 11 50 - x2 = pg t 0 50 - x2
      rw [pg0]
theorem RG.hh {h : Nat} {R' : Nat} (G : RG s t R) (H : HS s 11 R' h) : pg t 0 49 = nI h := G.h.hr.symm.trans H.2.2.1
theorem J_hours (F : RF s t) : w2 (C_hours x1 s) (M_hours x1 t) JF := by
  obtain ⟨⟨R, G⟩, I, M⟩ := F
  refine J.fin ?_ (W_C_hours I) (fun _ h => h.1) (V_M_hours M) (fun _ h => h.1)
  have H := G.h
  have h6 := H.r6
  obtain ⟨R', h, hh, Hs⟩ := I.1
  have e9 := G.hh Hs
  unfold C_hours M_hours
  refine w2P within_eq (inP (by decide) (by decide)) (fun _ => w2s ⟨rfl, R, G⟩) (fun c1 => ?_)
  obtain ⟨N, hN, rfl⟩ := in_j (by decide) c1
  refine w2r rfl (by decide) (by decide) ?_
  have e : s 11 2 = t 11 49 := by rw [H.hr, pg0]
  rw [e]
  refine w2i (fun _ => w2s ⟨rfl, R, G⟩) (fun _ => ?_)
  refine w2r rfl (by decide) (by decide) ?_
  refine w2bl (X_passHours (by omega) H e9 (by omega)) (fun v hv => ?_)
  obtain ⟨w, ew, hw⟩ := Y_h42 (x2 := t 11 50) (N := N) (by omega) h6 N 0 FU t h G.r e9 (by omega) (by omega) (by show N < 100000; omega)
  refine ⟨_, w, rfl, ew, ?_, R, ?_⟩
  · show v.1 = w.1
    rw [hv.2.2, hw.2.2, pg0]
  · refine G.fr (fun p q1 q2 => hv.2.1 p (by omega)) hw.2.1.g ?_
    rw [hw.1]
    exact hv.1
theorem pgE {t' : sg} {p : Nat} (h : t' 11 = t 11) : pg t' p = pg t p := by unfold pg; rw [h]
theorem fput_eq {m : Nat} (hm : m < 6) (e : s 23 3 = nI m) : F_put x1 x2 x3 s = some (nI 1, up (up (up (up s 24 m x1) 25 m x2) 26 m x3) 23 3 (nI (m + 1))) := by
  unfold F_put
  rw [e, if_pos ((nI_ltI (by omega) (by decide)).mpr hm), midx_nI hm (by decide)]
  show (midx ((up s 24 m x1) 23 3) 6).bind _ = _
  rw [up_p (by decide), e, midx_nI hm (by decide)]
  show (midx ((up (up s 24 m x1) 25 m x2) 23 3) 6).bind _ = _
  rw [up_p (by decide), up_p (by decide), e, midx_nI hm (by decide)]
  show some (nI 1, up (up (up (up s 24 m x1) 25 m x2) 26 m x3) 23 3 ((up (up (up s 24 m x1) 25 m x2) 26 m x3) 23 3 + nI 1)) = _
  rw [up_p (by decide), up_p (by decide), up_p (by decide), e, nI_add]
theorem J_see (F : RF s t) : w2 (C_see x1 x2 x3 s) (M_see x1 x2 x3 t) JF := by
  obtain ⟨⟨R, G⟩, I, M⟩ := F
  refine J.fin ?_ (W_C_see I) (fun _ h => h.1) (V_M_see M) (fun _ h => h.1)
  have H := G.h
  have h6 := H.r6
  have no : w2 (some ((-1 : Int32), s)) (some ((-1 : Int32), t)) JQ := w2s ⟨rfl, R, G⟩
  unfold C_see M_see
  refine w2P within_eq (inP (by decide) (by decide)) (fun _ => no) (fun c1 => ?_)
  refine w2P (hasRoom_P H.rm) (isRoom_P G.r h6) (fun _ => no) (fun c2 => ?_)
  refine w2P within_eq (inP (by decide) (by decide)) (fun _ => no) (fun c3 => ?_)
  obtain ⟨m, hm, e1, e2, e3⟩ := G.fe
  by_cases c : m = 6
  · subst c
    rw [e2, if_pos rfl]
    unfold F_put
    rw [e1, if_neg (by decide)]
    refine w2sl ?_
    dsimp only
    rw [if_pos (by decide)]
    exact w2s ⟨rfl, R, G⟩
  · have hm' : m < 6 := by omega
    rw [e2, if_neg (i32_ne c (by omega) (by decide)), fput_eq hm' e1]
    refine w2sl ?_
    dsimp only
    rw [if_neg (by decide)]
    refine w2r (pk_mul 3 m) (by omega) (by decide) (w2sr ?_)
    rw [up_p (show 10 ≠ 17 by decide), e2]
    refine w2r (show nI 3 * nI m + nI 1 = nI (3 * m + 1) by rw [pk_mul, nI_add]) (by omega) (by decide) (w2sr ?_)
    rw [up_p (show 10 ≠ 17 by decide), up_p (show 10 ≠ 17 by decide), e2]
    refine w2r (show nI 3 * nI m + nI 2 = nI (3 * m + 2) by rw [pk_mul, nI_add]) (by omega) (by decide) (w2sr (w2sr ?_))
    rw [up_eq, up_eq, up_p (show 10 ≠ 17 by decide), up_p (show 10 ≠ 17 by decide), up_p (show 10 ≠ 17 by decide), e2, nI_add]
    refine w2s ⟨rfl, R, ?_⟩
    have oS : ∀ p, ¬ (23 ≤ p ∧ p ≤ 26) → (up (up (up (up s 24 m x1) 25 m x2) 26 m x3) 23 3 (nI (m + 1))) p = s p := fun p hp => by
      rw [up_off (by omega), up_off (by omega), up_off (by omega), up_off (by omega)]
    have oT : ∀ q, q ≠ 17 → q ≠ 10 → (up (up (up (up t 17 (3 * m) x1) 17 (3 * m + 1) x2) 17 (3 * m + 2) x3) 10 22 (nI (m + 1))) q = t q := fun q h1 h2 => by
      rw [up_off h2, up_off h1, up_off h1, up_off h1]
    have oO : ∀ k, k ≠ 22 → (up (up (up (up t 17 (3 * m) x1) 17 (3 * m + 1) x2) 17 (3 * m + 2) x3) 10 22 (nI (m + 1))) 10 k = t 10 k := fun k hk => by
      rw [up_k hk, up_p (by decide), up_p (by decide), up_p (by decide)]
    refine ⟨(oO 1 (by decide)).trans G.r, ?_, ?_, ?_, ?_, ?_, ?_, ?_⟩
    · show HR _ 11 (pg (up (up (up (up t 17 (3 * m) x1) 17 (3 * m + 1) x2) 17 (3 * m + 2) x3) 10 22 (nI (m + 1))) 0) R
      rw [pgE (oT 11 (by decide) (by decide))]
      exact H.off (fun p q1 q2 => oS p (by omega))
    · exact G.kp.k (oS 20 (by omega)) (fun p _ _ => oS p (by omega)) (oT 19 (by decide) (by decide)) (fun k _ _ => by dsimp only; rw [oT 11 (by decide) (by decide)])
    · exact G.tp.k (by dsimp only; rw [oS 27 (by omega)]) (oS 28 (by omega)) (oO 8 (by decide)) (oT 13 (by decide) (by decide))
    · show FE (up (up (up (up s 24 m x1) 25 m x2) 26 m x3) 23 3 (nI (m + 1))) (up (up (up (up t 17 (3 * m) x1) 17 (3 * m + 1) x2) 17 (3 * m + 2) x3) 10 22 (nI (m + 1))) R
      refine ⟨m + 1, by omega, up_eq, up_eq, fun i hi => ?_⟩
      rw [up_p (show 24 ≠ 23 by decide), up_p (show 24 ≠ 26 by decide), up_p (show 24 ≠ 25 by decide), up_p (show 25 ≠ 23 by decide), up_p (show 25 ≠ 26 by decide), up_p (show 26 ≠ 23 by decide), up_p (show 17 ≠ 10 by decide), up_p (show 17 ≠ 10 by decide), up_p (show 17 ≠ 10 by decide)]
      by_cases z : i = m
      · subst z
        rw [up_eq, up_eq, up_eq]
        refine ⟨⟨?_, ?_, ?_⟩, room_j h6 c2⟩
        · rw [up_k (by omega), up_k (by omega), up_eq]
        · rw [up_k (by omega), up_eq]
        · rw [up_eq]
      · rw [up_k z, up_k z, up_p (show 25 ≠ 24 by decide), up_k z, up_p (show 26 ≠ 25 by decide), up_p (show 26 ≠ 24 by decide)]
        rw [up_k (by omega), up_k (by omega), up_k (by omega), up_k (by omega), up_k (by omega), up_k (by omega), up_k (by omega), up_k (by omega), up_k (by omega)]
        exact e3 i (by omega)
    · exact G.sh.k (fun p _ _ => oS p (by omega)) (oT 20 (by decide) (by decide)) (oT 21 (by decide) (by decide)) (oT 22 (by decide) (by decide))
    · dsimp only
      rw [oS 10 (by omega), oO 28 (by decide)]; exact G.tn
    · exact G.lt.k (oT 14 (by decide) (by decide)) (oT 15 (by decide) (by decide))
theorem J_forget (F : RF s t) : w2 (C_forget x1 s) (M_forget x1 t) JF := by
  obtain ⟨⟨R, G⟩, I, M⟩ := F
  refine J.fin ?_ (W_C_forget I) (fun _ h => h.1) (V_M_forget M) (fun _ h => h.1)
  have H := G.h
  obtain ⟨m, hm, e1, e2, e3⟩ := G.fe
  unfold C_forget M_forget
  rw [e1, e2]
  refine w2P within_eq (inP (by decide) rfl) (fun _ => w2s ⟨rfl, R, G⟩) (fun c1 => ?_)
  obtain ⟨j, hj, rfl⟩ := in_j (by omega) c1
  refine w2sl (w2sr (w2s ⟨rfl, R, ?_⟩))
  have oS : ∀ p, p ≠ 23 → (up s 23 3 (nI j)) p = s p := fun p hp => up_off hp
  have oT : ∀ q, q ≠ 10 → (up t 10 22 (nI j)) q = t q := fun q h => up_off h
  have oO : ∀ k, k ≠ 22 → (up t 10 22 (nI j)) 10 k = t 10 k := fun k hk => up_k hk
  refine ⟨(oO 1 (by decide)).trans G.r, ?_, ?_, ?_, ?_, ?_, ?_, ?_⟩
  · show HR _ 11 (pg (up t 10 22 (nI j)) 0) R
    rw [pgE (oT 11 (by decide))]
    exact H.off (fun p q1 q2 => oS p (by omega))
  · exact G.kp.k (oS 20 (by omega)) (fun p _ _ => oS p (by omega)) (oT 19 (by decide)) (fun k _ _ => by dsimp only; rw [oT 11 (by decide)])
  · exact G.tp.k (by dsimp only; rw [oS 27 (by omega)]) (oS 28 (by omega)) (oO 8 (by decide)) (oT 13 (by decide))
  · show FE (up s 23 3 (nI j)) (up t 10 22 (nI j)) R
    refine ⟨j, by omega, up_eq, up_eq, fun i hi => ?_⟩
    rw [oS 24 (by decide), oS 25 (by decide), oS 26 (by decide), oT 17 (by decide)]
    exact e3 i (by omega)
  · exact G.sh.k (fun p _ _ => oS p (by omega)) (oT 20 (by decide)) (oT 21 (by decide)) (oT 22 (by decide))
  · dsimp only
    rw [oS 10 (by omega), oO 28 (by decide)]; exact G.tn
  · exact G.lt.k (oT 14 (by decide)) (oT 15 (by decide))
theorem cpM_at {a c i : Nat} (hi : i < 52) : pg (cpM t a c 52) c i = pg t a i := by
  unfold pg cpM
  rw [if_pos ⟨rfl, by omega, by omega⟩, show a + (c + i - c) = a + i by omega]
theorem cpM_ne {a c q k : Nat} (h : q ≠ 11 ∨ k < c ∨ c + 52 ≤ k) : cpM t a c 52 q k = t q k := by
  unfold cpM
  rw [if_neg (by omega)]
theorem HR.copy {c : Nat} (H : HR s c g R) : HR (cpH s b c) b g R :=
  H.cp (fun k hk => by have h := @cpH_at s b c 0 k (by decide) (by show k < 5; exact hk); exact h) (fun i k h1 h2 hk => cpH_at h2 hk)
theorem J_keep (F : RF s t) : w2 (C_keep x1 s) (M_keep x1 t) JF := by
  obtain ⟨⟨R, G⟩, I, M⟩ := F
  refine J.fin ?_ (W_C_keep I) (fun _ h => h.1) (V_M_keep M) (fun _ h => h.1)
  have H := G.h
  unfold C_keep M_keep
  refine w2P within_eq (inP (by decide) (by decide)) (fun _ => w2s ⟨rfl, R, G⟩) (fun c1 => ?_)
  obtain ⟨j, hj, rfl⟩ := in_j (by decide) c1
  rw [nI_add, pk_mul, copies_eq (by decide) (by omega) (by omega)]
  refine w2l rfl (by omega) (by decide) (w2sr (w2r rfl (by omega) (by decide) ?_))
  have k1 : vp_nar .boolean (nI 1) = nI 1 := by decide
  have fin : ∀ y : Int32, w2 (C_keep_25 (nI j) y s) (M_keep_37 (nI j) y (cpM t 0 (52 * (j + 1)) 52)) JQ := fun y => by
    unfold C_keep_25 M_keep_37
    refine w2l rfl (by omega) (by decide) ?_
    rw [copyFrom_eq (show dj (37 + 8 * j) 11 from Or.inr (by omega)), k1]
    refine w2sl (w2l rfl (by omega) (by decide) (w2sl (w2r rfl (by omega) (by decide) (w2sr ?_))))
    refine w2s ⟨rfl, R, ?_⟩
    have oS : ∀ p, p ≠ 20 → ¬ (37 + 8 * j ≤ p ∧ p ≤ 37 + 8 * j + 7) → (up (cpH s (37 + 8 * j) 11) 20 j (nI 1)) p = s p := fun p h1 h2 => by
      rw [up_off h1]; exact cpH_off p (by omega)
    have oT : ∀ q, q ≠ 11 → q ≠ 19 → (up (cpM t 0 (52 * (j + 1)) 52) 19 j (nI 1)) q = t q := fun q h1 h2 => by
      rw [up_off h2]; funext k; exact cpM_ne (Or.inl h1)
    have oP : ∀ k, k < 52 * (j + 1) ∨ 52 * (j + 1) + 52 ≤ k → (up (cpM t 0 (52 * (j + 1)) 52) 19 j (nI 1)) 11 k = t 11 k := fun k hk => by
      rw [up_p (by decide)]; exact cpM_ne (Or.inr hk)
    refine ⟨?_, ?_, ?_, ?_, ?_, ?_, ?_, ?_⟩
    · dsimp only; rw [oT 10 (by decide) (by decide)]; exact G.r
    · refine HR.e (H.off (fun p q1 q2 => oS p (by omega) (by omega))) (fun i hi => ?_)
      rw [pg0, pg0]
      exact oP i (by omega)
    · intro k hk
      dsimp only
      by_cases z : k = j
      · subst z
        refine Or.inr ⟨up_eq, up_eq, ?_⟩
        refine HR.e (HR.off (H.copy (b := 37 + 8 * k)) (fun p q1 q2 => up_off (by omega))) (fun i hi => ?_)
        rw [pg_16 (by decide)]
        exact cpM_at hi
      · rw [up_k z, up_k z, show cpH s (37 + 8 * j) 11 20 k = s 20 k from congrFun (cpH_off 20 (by omega)) k, cpM_ne (Or.inl (by decide))]
        rcases G.kp k hk with q | ⟨q1, q2, q3⟩
        · exact Or.inl q
        · refine Or.inr ⟨q1, q2, ?_⟩
          refine HR.e (q3.off (fun p z1 z2 => oS p (by omega) (by omega))) (fun i hi => ?_)
          unfold pg
          exact oP _ (by omega)
    · exact G.tp.k (by dsimp only; rw [oS 27 (by omega) (by omega)]) (oS 28 (by omega) (by omega)) (by dsimp only; rw [oT 10 (by decide) (by decide)]) (oT 13 (by decide) (by decide))
    · exact G.fe.k (oS 23 (by omega) (by omega)) (oS 24 (by omega) (by omega)) (oS 25 (by omega) (by omega)) (oS 26 (by omega) (by omega)) (by dsimp only; rw [oT 10 (by decide) (by decide)]) (oT 17 (by decide) (by decide))
    · exact G.sh.k (fun p _ _ => oS p (by omega) (by omega)) (oT 20 (by decide) (by decide)) (oT 21 (by decide) (by decide)) (oT 22 (by decide) (by decide))
    · dsimp only
      rw [oS 10 (by omega) (by omega), oT 10 (by decide) (by decide)]; exact G.tn
    · exact G.lt.k (oT 14 (by decide) (by decide)) (oT 15 (by decide) (by decide))
  rw [cpM_ne (Or.inl (by decide))]
  rcases G.kp j (by omega) with ⟨q1, q2⟩ | ⟨q1, q2, _⟩
  · rw [q1, q2, if_pos (by decide), if_pos (by decide)]; exact fin _
  · rw [q1, q2, if_neg (by decide), if_neg (by decide)]; exact fin _
theorem J_back (F : RF s t) : w2 (C_back x1 s) (M_back x1 t) JF := by
  obtain ⟨⟨R, G⟩, I, M⟩ := F
  refine J.fin ?_ (W_C_back I) (fun _ h => h.1) (V_M_back M) (fun _ h => h.1)
  have H := G.h
  unfold C_back M_back
  refine w2P within_eq (inP (by decide) (by decide)) (fun _ => w2s ⟨rfl, R, G⟩) (fun c1 => ?_)
  obtain ⟨j, hj, rfl⟩ := in_j (by decide) c1
  refine w2l rfl (by omega) (by decide) (w2r rfl (by omega) (by decide) ?_)
  rcases G.kp j (by omega) with ⟨q1, q2⟩ | ⟨q1, q2, q3⟩
  · rw [q1, q2, if_pos (by decide), if_pos (by decide)]; exact w2s ⟨rfl, R, G⟩
  · rw [q1, q2, if_neg (by decide), if_neg (by decide), nI_add, pk_mul, copies_eq (by omega) (by decide) (by omega)]
    refine w2l rfl (by omega) (by decide) ?_
    rw [copyFrom_eq (show dj 11 (37 + 8 * j) from Or.inl (by omega))]
    refine w2sl (w2sr (w2r rfl (by decide) (by decide) ?_))
    have H' : HR (cpH s 11 (37 + 8 * j)) 11 (pg (cpM t (52 * (j + 1)) 0 52) 0) R := HR.e q3.copy (fun i hi => cpM_at hi)
    refine w2s ⟨?_, R, ?_⟩
    · show cpH s 11 (37 + 8 * j) 11 2 = cpM t (52 * (j + 1)) 0 52 11 49
      rw [H'.hr, pg0]
    · exact G.fr (fun p z1 z2 => cpH_off p (by omega)) (fun q k a _ _ _ => cpM_ne (by omega)) H'
theorem X_ren12 {N : Nat} (hN : N ≤ 40) : ∀ (n r fu : Nat) (s : sg), (∀ i, i < r → s (b + 1) i = nI 0) → r + n = N → n < fu → wp (S_renew_12 b (nI N) fu (nI r) s) (fun s' => (∀ p, p ≠ b + 1 → s' p = s p) ∧ ∀ i, i < N → s' (b + 1) i = nI 0)
  | n, r, 0, s, h, hr, hf => absurd hf (by omega)
  | n, r, fu + 1, s, h, hr, hf => by
    rw [S_renew_12]
    refine wi (fun c => ?_) (fun c => ?_)
    · rw [nI_ltI (by omega) (by omega)] at c
      obtain ⟨n, rfl⟩ : ∃ m, n = m + 1 := ⟨n - 1, by omega⟩
      refine wi (fun c2 => ?_) (fun c2 => absurd ((nI_ltI (by omega) (by decide)).mpr (by omega)) c2)
      refine wm rfl (by omega) (by decide) (wsb ?_)
      rw [nI_add]
      refine wc (X_ren12 hN n (r + 1) fu _ (fun i hi => ?_) (by omega) (by omega)) (fun a ha => ⟨fun p hp => (ha.1 p hp).trans (up_off hp), ha.2⟩)
      by_cases z : i = r
      · rw [z, up_eq]
      · rw [up_k z]; exact h i (by omega)
    · rw [nI_ltI (by omega) (by omega)] at c
      obtain rfl : r = N := by omega
      exact ws ⟨fun _ _ => rfl, h⟩
theorem Y_sh56 {j : Nat} (hj : j < 4) : ∀ (n r fu : Nat) (t : sg), (∀ i, i < r → t 22 (40 * j + i) = nI 0) → r + n = 40 → n < fu → wp (M_sheet_56 (nI j) fu (nI r) t) (fun v => v.1 = nI 1 ∧ (∀ p, p ≠ 22 → v.2 p = t p) ∧ (∀ k, ¬ (40 * j ≤ k ∧ k < 40 * j + 40) → v.2 22 k = t 22 k) ∧ ∀ i, i < 40 → v.2 22 (40 * j + i) = nI 0)
  | n, r, 0, t, h, hr, hf => absurd hf (by omega)
  | n, r, fu + 1, t, h, hr, hf => by
    rw [M_sheet_56]
    refine wi (fun c => ?_) (fun c => ?_)
    · rw [nI_ltI (by omega) (by omega)] at c
      obtain ⟨n, rfl⟩ : ∃ m, n = m + 1 := ⟨n - 1, by omega⟩
      refine wm (show nI 40 * nI j + nI r = nI (40 * j + r) by rw [pk_mul, nI_add]) (by omega) (by decide) (wsb ?_)
      rw [nI_add]
      refine wc (Y_sh56 hj n (r + 1) fu _ (fun i hi => ?_) (by omega) (by omega)) (fun a ha => ⟨ha.1, fun p hp => (ha.2.1 p hp).trans (up_off hp), fun k hk => (ha.2.2.1 k hk).trans (up_k (by omega)), ha.2.2.2⟩)
      by_cases z : i = r
      · rw [z, up_eq]
      · rw [up_k (by omega)]; exact h i (by omega)
    · rw [nI_ltI (by omega) (by omega)] at c
      obtain rfl : r = 40 := by omega
      exact ws ⟨rfl, fun _ _ => rfl, fun _ _ => rfl, h⟩
theorem J_sheet (F : RF s t) : w2 (C_sheet x1 x2 x3 s) (M_sheet x1 x2 x3 t) JF := by
  obtain ⟨⟨R, G⟩, I, M⟩ := F
  refine J.fin ?_ (W_C_sheet I) (fun _ h => h.1) (V_M_sheet M) (fun _ h => h.1)
  have H := G.h
  unfold C_sheet M_sheet
  refine w2P within_eq (inP (by decide) (by decide)) (fun _ => w2s ⟨rfl, R, G⟩) (fun c1 => ?_)
  obtain ⟨j, hj, rfl⟩ := in_j (by decide) c1
  refine w2P within_eq (inP (by decide) (by decide)) (fun _ => w2s ⟨rfl, R, G⟩) (fun c2 => ?_)
  obtain ⟨l, hl, rfl⟩ := in_j (by decide) c2
  refine w2i (fun _ => w2s ⟨rfl, R, G⟩) (fun c3 => w2i (fun _ => w2s ⟨rfl, R, G⟩) (fun c4 => ?_))
  obtain ⟨n, hn, rfl⟩ := in_j (n := 40) (by decide) ⟨c4, c3⟩
  refine w2l rfl (by omega) (by decide) (w2r rfl (by omega) (by decide) (w2sr (w2r rfl (by omega) (by decide) (w2sr ?_))))
  unfold S_renew
  obtain ⟨s', es, h1, h2⟩ := X_ren12 (b := 133 + 2 * j) (N := n) hn n 0 FU (up (up s (133 + 2 * j) 0 (nI l)) (133 + 2 * j) 1 (nI n)) (fun i hi => absurd hi (by omega)) (by omega) (by show n < 100000; omega)
  obtain ⟨v, ev, g1, g2, g3, g4⟩ := Y_sh56 (j := j) (by omega) 40 0 FU (up (up t 20 j (nI l)) 21 j (nI n)) (fun i hi => absurd hi (by omega)) (by omega) (by decide)
  refine w2sl ?_
  show w2 ((S_renew_12 (133 + 2 * j) (nI n) FU (nI 0) (up (up s (133 + 2 * j) 0 (nI l)) (133 + 2 * j) 1 (nI n))).bind fun s1 => some (nI 1, s1)) _ JQ
  rw [es]
  refine ⟨(nI 1, s'), v, rfl, ev, g1.symm, R, ?_⟩
  have oS : ∀ p, p ≠ 133 + 2 * j → p ≠ 133 + 2 * j + 1 → s' p = s p := fun p q1 q2 => by rw [h1 p q2, up_off q1, up_off q1]
  have oT : ∀ q, q ≠ 20 → q ≠ 21 → q ≠ 22 → v.2 q = t q := fun q q1 q2 q3 => by rw [g2 q q3, up_off q2, up_off q1]
  dsimp only
  refine ⟨?_, ?_, ?_, ?_, ?_, fun k hk => ?_, ?_, ?_⟩
  · rw [oT 10 (by decide) (by decide) (by decide)]; exact G.r
  · rw [pgE (oT 11 (by decide) (by decide) (by decide))]
    exact H.off (fun p q1 q2 => oS p (by omega) (by omega))
  · exact G.kp.k (oS 20 (by omega) (by omega)) (fun p _ _ => oS p (by omega) (by omega)) (oT 19 (by decide) (by decide) (by decide)) (fun k _ _ => by rw [oT 11 (by decide) (by decide) (by decide)])
  · exact G.tp.k (by rw [oS 27 (by omega) (by omega)]) (oS 28 (by omega) (by omega)) (by rw [oT 10 (by decide) (by decide) (by decide)]) (oT 13 (by decide) (by decide) (by decide))
  · exact G.fe.k (oS 23 (by omega) (by omega)) (oS 24 (by omega) (by omega)) (oS 25 (by omega) (by omega)) (oS 26 (by omega) (by omega)) (by rw [oT 10 (by decide) (by decide) (by decide)]) (oT 17 (by decide) (by decide) (by decide))
  · by_cases z : k = j
    · subst z
      refine ⟨Or.inr ⟨l, by omega, ?_, ?_⟩, n, hn, ?_, ?_, fun i hi => ?_⟩
      · rw [h1 _ (by omega), up_k (by decide), up_eq]
      · rw [g2 20 (by decide), up_p (by decide), up_eq]
      · rw [h1 _ (by omega), up_eq]
      · rw [g2 21 (by decide), up_eq]
      · rw [h2 i hi, g4 i (by omega)]
    · obtain ⟨z1, n', n1, n2, n3, n4⟩ := G.sh k hk
      refine ⟨?_, n', n1, ?_, ?_, fun i hi => ?_⟩
      · rw [oS _ (by omega) (by omega), g2 20 (by decide), up_p (by decide), up_k z]; exact z1
      · rw [oS _ (by omega) (by omega)]; exact n2
      · rw [g2 21 (by decide), up_k z, up_p (by decide)]; exact n3
      · rw [oS _ (by omega) (by omega), g3 _ (by omega), up_p (by decide), up_p (by decide)]; exact n4 i hi
  · rw [oS 10 (by omega) (by omega), oT 10 (by decide) (by decide) (by decide)]; exact G.tn
  · exact G.lt.k (oT 14 (by decide) (by decide) (by decide)) (oT 15 (by decide) (by decide) (by decide))
end HRS
end Q65
section Q66
/-! numbers cut to a byte, to a short -/
theorem sx8 (x : Int32) : (x <<< (nI 24 &&& 31)) >>> (nI 24 &&& 31) = x.toInt8.toInt32 := by
  apply Int32.toInt_inj.mp
  rw [pk_shr _ _ 24 (by decide), Int8.toInt_toInt32, Int32.toInt_toInt8]
  have h := pk_shl x (nI 24 &&& 31) 24 (by decide)
  have e : (x <<< (nI 24 &&& 31)).toInt = (x <<< (nI 24 &&& 31)).toBitVec.toInt := rfl
  have e2 : x.toInt = x.toBitVec.toInt := rfl
  rw [e, BitVec.toInt_eq_toNat_cond, h, e2, BitVec.toInt_eq_toNat_cond, Int.shiftRight_eq_div_pow, Int.bmod_def]
  have hx := x.toBitVec.isLt
  split <;> split <;> split <;> omega
theorem sx16 (x : Int32) : (x <<< (nI 16 &&& 31)) >>> (nI 16 &&& 31) = x.toInt16.toInt32 := by
  apply Int32.toInt_inj.mp
  rw [pk_shr _ _ 16 (by decide), Int16.toInt_toInt32, Int32.toInt_toInt16]
  have h := pk_shl x (nI 16 &&& 31) 16 (by decide)
  have e : (x <<< (nI 16 &&& 31)).toInt = (x <<< (nI 16 &&& 31)).toBitVec.toInt := rfl
  have e2 : x.toInt = x.toBitVec.toInt := rfl
  rw [e, BitVec.toInt_eq_toNat_cond, h, e2, BitVec.toInt_eq_toNat_cond, Int.shiftRight_eq_div_pow, Int.bmod_def]
  have hx := x.toBitVec.isLt
  split <;> split <;> split <;> omega
section PLAIN
variable {s t : sg} {b R : Nat} {g : Nat → Int32} {x x1 x2 x3 x4 : Int32}
theorem lane_P (n : Nat) (hn : n ≤ 40) : (¬ nI n - nI 1 < x2) ↔ x2 < nI n := by
  rw [Int32.lt_iff_toInt_lt, Int32.lt_iff_toInt_lt, pk_sub_toInt (by omega) (by decide), nI_toInt (by omega)]
  omega
theorem J_lay (F : RF s t) : w2 (C_lay x1 x2 x3 s) (M_lay x1 x2 x3 t) JF := by
  obtain ⟨⟨R, G⟩, I, M⟩ := F
  refine J.fin ?_ (W_C_lay I) (fun _ h => h.1) (V_M_lay M) (fun _ h => h.1)
  have H := G.h
  unfold C_lay M_lay
  refine w2P within_eq (inP (by decide) (by decide)) (fun _ => w2s ⟨rfl, R, G⟩) (fun c1 => ?_)
  obtain ⟨j, hj, rfl⟩ := in_j (by decide) c1
  refine w2l rfl (by omega) (by decide) (w2r rfl (by omega) (by decide) ?_)
  obtain ⟨z1, n, n1, n2, n3, n4⟩ := G.sh j (by omega)
  unfold S_faultAt S_isThere
  rcases z1 with ⟨q1, q2⟩ | ⟨l, hl, q1, q2⟩
  · rw [q1, q2, if_pos rfl, if_pos rfl]
    exact w2s ⟨show (-10 : Int32) - nI 1 = -11 by decide, R, G⟩
  · have l1 : ¬ nI l = -1 := by
      have hl' : l = 0 ∨ l = 1 ∨ l = 2 := by omega
      rcases hl' with rfl | rfl | rfl <;> decide
    have l4 : ¬ nI l = -4 := by
      have hl' : l = 0 ∨ l = 1 ∨ l = 2 := by omega
      rcases hl' with rfl | rfl | rfl <;> decide
    rw [q1, q2, if_neg l1, if_neg l4]
    refine w2r rfl (by omega) (by decide) ?_
    show w2 ((if nI 1 = 0 then some (nI 1) else if nI l = nI l then if x2 < 0 then some (nI 2) else if x2 < s (133 + 2 * j) 1 then some (nI 0) else some (nI 2) else some (nI 3)).bind _) _ JQ
    rw [if_neg (show ¬ nI 1 = 0 by decide), if_pos rfl, n2, n3]
    have hP : M_in x2.toInt64 (0 : Int64) ((nI n - nI 1).toInt64) t = some (if ¬ x2 < nI 0 ∧ ¬ nI n - nI 1 < x2 then nI 1 else nI 0) := inP (by decide) rfl
    by_cases c : ¬ x2 < nI 0 ∧ ¬ nI n - nI 1 < x2
    · rw [hP, if_pos c, if_neg (show ¬ x2 < 0 from c.1), if_pos ((lane_P n n1).mp c.2)]
      obtain ⟨i, hi, rfl⟩ := nI_of c.1
      have hin : i < n := (nI_ltI hi (by omega)).mp ((lane_P n n1).mp c.2)
      show w2 ((S_put (133 + 2 * j) (nI i) x3 s).bind fun s1 => some (nI 1, s1)) ((midx (nI j) 4).bind _) JQ
      refine w2r rfl (by omega) (by decide) ?_
      rw [q2]
      have fin : ∀ y y' : Int32, y = y' → w2 ((S_put_31 (133 + 2 * j) y (nI i) s).bind fun s1 => some (nI 1, s1)) (M_lay_99 y' (nI 40 * nI j + nI i) t) JQ := fun y y' e => by
        subst e
        unfold M_lay_99
        rw [pk_mul, nI_add]
        refine w2r rfl (by omega) (by decide) (w2sr ?_)
        have e31 : S_put_31 (133 + 2 * j) y (nI i) s = some (up s (133 + 2 * j + 1) i y) := by
          unfold S_put_31
          rw [midx_nI (by omega) (by decide)]; rfl
        rw [e31]
        refine w2sl (w2s ⟨rfl, R, ?_⟩)
        have oS : ∀ p, p ≠ 133 + 2 * j + 1 → (up s (133 + 2 * j + 1) i y) p = s p := fun p hp => up_off hp
        have oT : ∀ q, q ≠ 22 → (up t 22 (40 * j + i) y) q = t q := fun q h => up_off h
        dsimp only
        refine ⟨?_, ?_, ?_, ?_, ?_, fun k hk => ?_, ?_, ?_⟩
        · rw [oT 10 (by decide)]; exact G.r
        · rw [pgE (oT 11 (by decide))]
          exact H.off (fun p q1 q2 => oS p (by omega))
        · exact G.kp.k (oS 20 (by omega)) (fun p _ _ => oS p (by omega)) (oT 19 (by decide)) (fun k _ _ => by rw [oT 11 (by decide)])
        · exact G.tp.k (by rw [oS 27 (by omega)]) (oS 28 (by omega)) (by rw [oT 10 (by decide)]) (oT 13 (by decide))
        · exact G.fe.k (oS 23 (by omega)) (oS 24 (by omega)) (oS 25 (by omega)) (oS 26 (by omega)) (by rw [oT 10 (by decide)]) (oT 17 (by decide))
        · obtain ⟨y1, m, m1, m2, m3, m4⟩ := G.sh k hk
          rw [oS _ (by omega), oT 20 (by decide), oT 21 (by decide)]
          refine ⟨y1, m, m1, m2, m3, fun a ha => ?_⟩
          by_cases z : k = j
          · subst z
            by_cases z2 : a = i
            · rw [z2, up_eq, up_eq]
            · rw [up_k z2, up_k (by omega)]; exact m4 a ha
          · rw [oS _ (by omega), up_k (by omega)]; exact m4 a ha
        · rw [oS 10 (by omega), oT 10 (by decide)]; exact G.tn
        · exact G.lt.k (oT 14 (by decide)) (oT 15 (by decide))
      unfold S_put
      rw [q1]
      have hl' : l = 0 ∨ l = 1 ∨ l = 2 := by omega
      rcases hl' with rfl | rfl | rfl
      · rw [if_pos (by decide), if_pos (by decide)]
        exact fin _ _ (sx8 x3).symm
      · rw [if_neg (by decide), if_pos (by decide), if_neg (by decide)]
        refine w2r rfl (by omega) (by decide) ?_
        rw [q2, if_pos (by decide)]
        exact fin _ _ (sx16 x3).symm
      · rw [if_neg (by decide), if_neg (by decide), if_neg (by decide)]
        refine w2r rfl (by omega) (by decide) ?_
        rw [q2, if_neg (by decide)]
        exact fin _ _ rfl
    · rw [hP, if_neg c]
      have e2 : (if x2 < 0 then some (nI 2) else if x2 < nI n then some (nI 0) else some (nI 2)) = some (nI 2) := by
        by_cases d : x2 < 0
        · rw [if_pos d]
        · rw [if_neg d, if_neg (fun w => c ⟨d, (lane_P n n1).mpr w⟩)]
      rw [e2]
      exact w2s ⟨show (-10 : Int32) - nI 2 = -12 by decide, R, G⟩
theorem by_nar : ∀ c : Nat, c < 128 → vp_nar .byte (nI c).toInt8.toInt32 = nI c := by decide +kernel
theorem J_feed (F : RF s t) : w2 (C_feed x1 s) (M_feed x1 t) JF := by
  obtain ⟨⟨R, G⟩, I, M⟩ := F
  have H := G.h
  obtain ⟨L, hL, e1, e2, e3⟩ := G.tp
  refine J.fin ?_ (W_C_feed I hL e1) (fun _ h => h.1) (V_M_feed M) (fun _ h => h.1)
  unfold C_feed M_feed
  refine w2P within_eq (inP (by decide) (by decide)) (fun _ => w2s ⟨rfl, R, G⟩) (fun c1 => ?_)
  obtain ⟨c, hc, rfl⟩ := in_j (by decide) c1
  unfold T_put
  rw [e1, e2]
  by_cases z : L = 160
  · subst z
    rw [if_neg (by decide), if_pos rfl]
    refine w2sl ?_
    dsimp only
    rw [if_pos (by decide)]
    exact w2s ⟨rfl, R, G⟩
  · rw [if_pos ((nI_ltI (by omega) (by decide)).mpr (by omega)), if_neg (i32_ne z (by omega) (by decide)), midx_nI (by omega) (by decide), by_nar c (by omega)]
    have k1 : (up s 28 L (nI c)) 27 1 = nI L := by rw [up_p (by decide)]; exact e1
    have k2 : (up t 13 L (nI c)) 10 8 = nI L := by rw [up_p (by decide)]; exact e2
    show w2 ((some (nI 1, up (up s 28 L (nI c)) 27 1 ((up s 28 L (nI c)) 27 1 + nI 1))).bind _) (some ((up (up t 13 L (nI c)) 10 8 ((up t 13 L (nI c)) 10 8 + nI 1)) 10 8, up (up t 13 L (nI c)) 10 8 ((up t 13 L (nI c)) 10 8 + nI 1))) JQ
    rw [k1, k2, nI_add, up_eq]
    refine w2sl ?_
    dsimp only
    rw [if_neg (by decide), up_eq]
    refine w2s ⟨rfl, R, ?_⟩
    have oS : ∀ p, p ≠ 27 → p ≠ 28 → (up (up s 28 L (nI c)) 27 1 (nI (L + 1))) p = s p := fun p h1 h2 => by rw [up_off h1, up_off h2]
    have oT : ∀ q, q ≠ 10 → q ≠ 13 → (up (up t 13 L (nI c)) 10 8 (nI (L + 1))) q = t q := fun q h1 h2 => by rw [up_off h1, up_off h2]
    have oO : ∀ k, k ≠ 8 → (up (up t 13 L (nI c)) 10 8 (nI (L + 1))) 10 k = t 10 k := fun k hk => by rw [up_k hk, up_p (by decide)]
    dsimp only
    refine ⟨(oO 1 (by decide)).trans G.r, ?_, ?_, ?_, ?_, ?_, ?_, ?_⟩
    · rw [pgE (oT 11 (by decide) (by decide))]
      exact H.off (fun p q1 q2 => oS p (by omega) (by omega))
    · exact G.kp.k (oS 20 (by omega) (by omega)) (fun p _ _ => oS p (by omega) (by omega)) (oT 19 (by decide) (by decide)) (fun k _ _ => by rw [oT 11 (by decide) (by decide)])
    · refine ⟨L + 1, by omega, up_eq, up_eq, fun i hi => ?_⟩
      rw [up_p (show 28 ≠ 27 by decide), up_p (show 13 ≠ 10 by decide)]
      by_cases w : i = L
      · subst w
        exact ⟨c, by omega, up_eq, up_eq⟩
      · rw [up_k w, up_k w]; exact e3 i (by omega)
    · exact G.fe.k (oS 23 (by omega) (by omega)) (oS 24 (by omega) (by omega)) (oS 25 (by omega) (by omega)) (oS 26 (by omega) (by omega)) (oO 22 (by decide)) (oT 17 (by decide) (by decide))
    · exact G.sh.k (fun p _ _ => oS p (by omega) (by omega)) (oT 20 (by decide) (by decide)) (oT 21 (by decide) (by decide)) (oT 22 (by decide) (by decide))
    · rw [oS 10 (by omega) (by omega), oO 28 (by decide)]; exact G.tn
    · exact G.lt.k (oT 14 (by decide) (by decide)) (oT 15 (by decide) (by decide))
theorem J_end (F : RF s t) : w2 (C_end x1 s) (M_end x1 t) JF := by
  obtain ⟨⟨R, G⟩, I, M⟩ := F
  have H := G.h
  obtain ⟨L, hL, e1, e2, e3⟩ := G.tp
  refine J.fin ?_ (W_C_end I hL e1) (fun _ h => h.1) (V_M_end M) (fun _ h => h.1)
  unfold C_end M_end
  rw [e1, e2]
  refine w2P within_eq (inP (by decide) rfl) (fun _ => w2s ⟨rfl, R, G⟩) (fun c1 => ?_)
  obtain ⟨j, hj, rfl⟩ := in_j (by omega) c1
  refine w2sl (w2sr (w2s ⟨rfl, R, ?_⟩))
  have oS : ∀ p, p ≠ 27 → (up s 27 1 (nI j)) p = s p := fun p h1 => up_off h1
  have oT : ∀ q, q ≠ 10 → (up t 10 8 (nI j)) q = t q := fun q h1 => up_off h1
  have oO : ∀ k, k ≠ 8 → (up t 10 8 (nI j)) 10 k = t 10 k := fun k hk => up_k hk
  dsimp only
  refine ⟨(oO 1 (by decide)).trans G.r, ?_, ?_, ?_, ?_, ?_, ?_, ?_⟩
  · rw [pgE (oT 11 (by decide))]
    exact H.off (fun p q1 q2 => oS p (by omega))
  · exact G.kp.k (oS 20 (by omega)) (fun p _ _ => oS p (by omega)) (oT 19 (by decide)) (fun k _ _ => by rw [oT 11 (by decide)])
  · refine ⟨j, by omega, up_eq, up_eq, fun i hi => ?_⟩
    rw [up_p (by decide), up_p (by decide)]
    exact e3 i (by omega)
  · exact G.fe.k (oS 23 (by omega)) (oS 24 (by omega)) (oS 25 (by omega)) (oS 26 (by omega)) (oO 22 (by decide)) (oT 17 (by decide))
  · exact G.sh.k (fun p _ _ => oS p (by omega)) (oT 20 (by decide)) (oT 21 (by decide)) (oT 22 (by decide))
  · rw [oS 10 (by omega), oO 28 (by decide)]; exact G.tn
  · exact G.lt.k (oT 14 (by decide)) (oT 15 (by decide))
end PLAIN
end Q66
section Q67
/-! marks read from a sheet, by both -/
def fcV (t : sg) (j : Nat) (x2 x3 : Int32) (n q : Nat) : Int32 := if t 20 j = -4 then nI 1 else if t 20 j = x2 then (if ¬ x3 + nI q < nI 0 ∧ x3 + nI q < nI n then nI 0 else nI 2) else nI 3
section READ
variable {s t s0 t0' : sg} {R n : Nat} {x x1 x2 x3 x4 y : Int32}
theorem rd_iff {q : Nat} (hq : q < 1000) (hn : n ≤ 40) : (¬ x3.toInt64 + (nI q).toInt64 < (0 : Int64) ∧ ¬ (nI n - nI 1).toInt64 < x3.toInt64 + (nI q).toInt64) ↔ (¬ x3 + nI q < nI 0 ∧ x3 + nI q < nI n) := by
  have h1 := x3.toInt_lt
  have h2 := x3.le_toInt
  have e : (x3.toInt64 + (nI q).toInt64).toInt = x3.toInt + q := by
    rw [Int64.toInt_add, Int32.toInt_toInt64, Int32.toInt_toInt64, nI_toInt (by omega)]
    rw [Int.bmod_eq_of_le (by omega) (by omega)]
  have e2 : (x3 + nI q).toInt = (x3.toInt + q).bmod (2 ^ 32) := by rw [Int32.toInt_add, nI_toInt (by omega)]
  have e3 : (nI n - nI 1).toInt64.toInt = (n : Int) - 1 := by rw [Int32.toInt_toInt64, pk_sub_toInt (by omega) (by decide)]; rfl
  have e4 : (nI n).toInt = n := nI_toInt (by omega)
  have e0 : (nI 0).toInt = 0 := rfl
  have z0 : (0 : Int64).toInt = 0 := rfl
  rw [Int64.lt_iff_toInt_lt, Int64.lt_iff_toInt_lt, Int32.lt_iff_toInt_lt, Int32.lt_iff_toInt_lt, e, e2, e3, e4, e0, z0, Int.bmod_def]
  split <;> omega
theorem rf_step {j q N fu : Nat} {x6 : Int32} (hj : j < 4) (hn : n ≤ 40) (en : t 21 j = nI n) (hq : q < 2 * N) (hN : N ≤ 20) : M_read_56 (nI j) x2 x3 (nI N) (fu + 1) (nI 0) x6 (nI q) t = M_read_126 (M_read_56 (nI j) x2 x3 (nI N) fu) (nI j) x2 x3 (nI N) x6 (nI q) (fcV t j x2 x3 n q) t := by
  rw [M_read_56, pk_mul, if_pos ((nI_ltI (by omega) (by omega)).mpr hq), if_pos (by decide), midx_nI hj (by decide)]
  unfold fcV
  show (if t 20 j = -4 then _ else _) = _
  by_cases c : t 20 j = -4
  · rw [if_pos c, if_pos c]
  · rw [if_neg c, if_neg c]
    show (if t 20 j = x2 then _ else _) = _
    by_cases d : t 20 j = x2
    · rw [if_pos d, if_pos d]
      have hi := rd_iff (x3 := x3) (q := q) (n := n) (by omega) hn
      show (M_in (x3.toInt64 + (nI q).toInt64) (0 : Int64) ((t 21 j - nI 1).toInt64) t).bind _ = _
      rw [en]
      unfold M_in
      by_cases f : ¬ x3 + nI q < nI 0 ∧ x3 + nI q < nI n
      · have f' := hi.mpr f
        rw [if_pos f, if_neg f'.1, if_neg f'.2]; rfl
      · rw [if_neg f]
        by_cases z : x3.toInt64 + (nI q).toInt64 < (0 : Int64)
        · rw [if_pos z]; rfl
        · rw [if_neg z]
          by_cases z2 : (nI n - nI 1).toInt64 < x3.toInt64 + (nI q).toInt64
          · rw [if_pos z2]; rfl
          · exact absurd (hi.mp ⟨z, z2⟩) f
    · rw [if_neg d, if_neg d]
theorem cl_fault {j q : Nat} (S : SH s t) (hj : j < 4) (en : t 21 j = nI n) (hx : ∃ l : Nat, l ≤ 2 ∧ x2 = nI l) : S_faultAt (133 + 2 * j) x2 (x3 + nI q) s = some (fcV t j x2 x3 n q) := by
  obtain ⟨l', hl', rfl⟩ := hx
  obtain ⟨z1, m, m1, m2, m3, m4⟩ := S j hj
  unfold S_faultAt S_isThere fcV
  rcases z1 with ⟨q1, q2⟩ | ⟨l, hl, q1, q2⟩
  · rw [q1, q2, if_pos rfl, if_pos rfl]; rfl
  · have l1 : ¬ nI l = -1 := by
      have hl' : l = 0 ∨ l = 1 ∨ l = 2 := by omega
      rcases hl' with rfl | rfl | rfl <;> decide
    have l4 : ¬ nI l = -4 := by
      have hl' : l = 0 ∨ l = 1 ∨ l = 2 := by omega
      rcases hl' with rfl | rfl | rfl <;> decide
    rw [q1, q2, if_neg l1, if_neg l4]
    show (if nI 1 = 0 then some (nI 1) else if nI l' = nI l then if x3 + nI q < 0 then some (nI 2) else if x3 + nI q < s (133 + 2 * j) 1 then some (nI 0) else some (nI 2) else some (nI 3)) = _
    rw [if_neg (by decide), m2, ← m3, en]
    by_cases c : nI l' = nI l
    · rw [if_pos c, if_pos c.symm]
      by_cases d : x3 + nI q < nI 0
      · rw [if_pos (show x3 + nI q < 0 from d), if_neg (fun w => w.1 d)]
      · rw [if_neg (show ¬ x3 + nI q < 0 from d)]
        by_cases f : x3 + nI q < nI n
        · rw [if_pos f, if_pos ⟨d, f⟩]
        · rw [if_neg f, if_neg (fun w => f w.2)]
    · rw [if_neg c, if_neg (fun w => c w.symm)]
theorem fc_0 {j q : Nat} (h : fcV t j x2 x3 n q = 0) : ¬ x3 + nI q < nI 0 ∧ x3 + nI q < nI n := by
  unfold fcV at h
  by_cases c : t 20 j = -4
  · rw [if_pos c] at h; exact absurd h (by decide)
  · rw [if_neg c] at h
    by_cases d : t 20 j = x2
    · rw [if_pos d] at h
      by_cases f : ¬ x3 + nI q < nI 0 ∧ x3 + nI q < nI n
      · exact f
      · rw [if_neg f] at h; exact absurd h (by decide)
    · rw [if_neg d] at h; exact absurd h (by decide)
theorem cl_pair {j a : Nat} (S : SH s t) (hj : j < 4) (en : t 21 j = nI n) (hx : ∃ l : Nat, l ≤ 2 ∧ x2 = nI l) : S_faultAtPair (133 + 2 * j) x2 (x3 + nI 2 * nI a) s = some (if fcV t j x2 x3 n (2 * a) = 0 then fcV t j x2 x3 n (2 * a + 1) else fcV t j x2 x3 n (2 * a)) := by
  unfold S_faultAtPair
  rw [pk_mul, cl_fault S hj en hx]
  show (if fcV t j x2 x3 n (2 * a) = 0 then (S_faultAt (133 + 2 * j) x2 (x3 + nI (2 * a) + nI 1) s).bind (fun v2 => some v2) else some (fcV t j x2 x3 n (2 * a))) = _
  rw [Int32.add_assoc, nI_add, cl_fault S hj en hx]
  by_cases c : fcV t j x2 x3 n (2 * a) = 0
  · rw [if_pos c, if_pos c]; rfl
  · rw [if_neg c, if_neg c]
theorem RG.torn (G : RG s t R) : RG (up s 10 7 y) (up t 10 28 y) R := by
  have oS : ∀ p, p ≠ 10 → (up s 10 7 y) p = s p := fun p h1 => up_off h1
  have oT : ∀ q, q ≠ 10 → (up t 10 28 y) q = t q := fun q h1 => up_off h1
  have oO : ∀ k, k ≠ 28 → (up t 10 28 y) 10 k = t 10 k := fun k hk => up_k hk
  refine ⟨(oO 1 (by decide)).trans G.r, ?_, ?_, ?_, ?_, ?_, ?_, ?_⟩
  · rw [pgE (oT 11 (by decide))]
    exact G.h.off (fun p q1 q2 => oS p (by omega))
  · exact G.kp.k (oS 20 (by omega)) (fun p _ _ => oS p (by omega)) (oT 19 (by decide)) (fun k _ _ => by rw [oT 11 (by decide)])
  · exact G.tp.k (by rw [oS 27 (by omega)]) (oS 28 (by omega)) (oO 8 (by decide)) (oT 13 (by decide))
  · exact G.fe.k (oS 23 (by omega)) (oS 24 (by omega)) (oS 25 (by omega)) (oS 26 (by omega)) (oO 22 (by decide)) (oT 17 (by decide))
  · exact G.sh.k (fun p _ _ => oS p (by omega)) (oT 20 (by decide)) (oT 21 (by decide)) (oT 22 (by decide))
  · rw [up_eq, up_eq]
  · exact G.lt.k (oT 14 (by decide)) (oT 15 (by decide))
theorem cl_stop {b N fu : Nat} {x8 x9 : Int32} (hy : ¬ y = 0) : C_read_54 x2 x3 (nI N) b (fu + 1) y x8 x9 s = C_read_130 y x8 s := by
  rw [C_read_54]
  by_cases c : x9 < nI N
  · rw [if_pos c, if_neg hy]
  · rw [if_neg c]
theorem rf_stop {N fu : Nat} {x6 x7 : Int32} (hy : ¬ y = 0) : M_read_56 x1 x2 x3 (nI N) (fu + 1) y x6 x7 t = M_read_228 y x6 t := by
  rw [M_read_56]
  by_cases c : x7 < nI 2 * nI N
  · rw [if_pos c, if_neg hy]
  · rw [if_neg c]
theorem rdf_ne {k56 : Int32 → Int32 → Int32 → sg → Option (Int32 × sg)} {x6 x7 : Int32} (hy : ¬ y = 0) : M_read_126 k56 x1 x2 x3 x4 x6 x7 y t = k56 y x6 (x7 + nI 1) t := by
  unfold M_read_126
  rw [if_neg hy]
theorem rdf_ev {k56 : Int32 → Int32 → Int32 → sg → Option (Int32 × sg)} {x6 : Int32} {a : Nat} (ha : a < 1000) : M_read_126 k56 x1 x2 x3 x4 x6 (nI (2 * a)) (nI 0) t = k56 (nI 0) x6 (nI (2 * a + 1)) t := by
  unfold M_read_126
  rw [if_pos (by decide), pk_rem (by omega) (by decide) (by decide), if_neg (i32_ne (by omega) (by omega) (by decide)), nI_add]
theorem rdf_od {k56 : Int32 → Int32 → Int32 → sg → Option (Int32 × sg)} {x6 : Int32} {j i a : Nat} (hj : j < 4) (hi : i < 39) (ha : a < 1000) (ei : x3 + nI (2 * a + 1) = nI (i + 1)) : M_read_126 k56 (nI j) x2 x3 x4 x6 (nI (2 * a + 1)) (nI 0) t = (M_marks (t 22 (40 * j + i)) (t 22 (40 * j + (i + 1))) t).bind fun v1 => if v1.1 < 0 then M_read_192 k56 (nI j) x2 x3 x4 (nI 0) x6 (nI (2 * a + 1)) v1.2 else if v1.2 11 49 < nI 999 then M_read_193 k56 (nI j) x2 x3 x4 (nI 0) x6 (nI (2 * a + 1)) (nI 1) v1.2 else M_read_192 k56 (nI j) x2 x3 x4 (nI 0) x6 (nI (2 * a + 1)) v1.2 := by
  have e2 : nI 40 * nI j + x3 + nI (2 * a + 1) = nI (40 * j + (i + 1)) := by rw [pk_mul, Int32.add_assoc, ei, nI_add]
  have e1 : nI 40 * nI j + x3 + nI (2 * a + 1) - nI 1 = nI (40 * j + i) := by rw [e2, pk_sub (by omega)]; rfl
  unfold M_read_126
  rw [if_pos (by decide), pk_rem (by omega) (by decide) (by decide), show (2 * a + 1) % 2 = 1 by omega, if_pos rfl, e1, e2, midx_nI (by omega) (by decide), midx_nI (by omega) (by decide)]
  rfl
theorem J_rd {j N : Nat} (hj : j < 4) (hN : N ≤ 20) (G0 : RG s0 t0' R) (hx : ∃ l : Nat, l ≤ 2 ∧ x2 = nI l) : ∀ (n a fu fu' : Nat) (s t : sg) (h : Nat), offT s0 s → offG t0' t → HR s 53 (pg t 0) R → pg t 0 49 = nI h → h ≤ 999 → (∀ i, i < 52 → pg t 156 i = pg t0' 0 i) → a + n = N → n + 1 < fu → 2 * n + 1 < fu' → w2 (C_read_54 x2 x3 (nI N) (133 + 2 * j) fu (nI 0) (nI a) (nI a) s) (M_read_56 (nI j) x2 x3 (nI N) fu' (nI 0) (nI a) (nI (2 * a)) t) JQ
  | n, a, 0, fu', s, t, h, oS, oT, H, e9, hh, hb, hr, hf, hf' => absurd hf (by omega)
  | n, a, 1, fu', s, t, h, oS, oT, H, e9, hh, hb, hr, hf, hf' => absurd hf (by omega)
  | n, a, fu + 2, 0, s, t, h, oS, oT, H, e9, hh, hb, hr, hf, hf' => absurd hf' (by omega)
  | n, a, fu + 2, 1, s, t, h, oS, oT, H, e9, hh, hb, hr, hf, hf' => absurd hf' (by omega)
  | n, a, fu + 2, fu' + 2, s, t, h, oS, oT, H, e9, hh, hb, hr, hf, hf' => by
    have h6 := H.r6
    have done : ∀ y : Int32, w2 (C_read_130 y (nI a) s) (M_read_228 y (nI a) t) JQ := fun y => by
      unfold C_read_130 M_read_228
      rw [copyFrom_eq (show dj 11 53 from Or.inl (by decide))]
      refine w2sl (w2sl (w2sr (w2s ⟨rfl, R, ?_⟩)))
      refine RG.torn (G0.fr (fun p q1 q2 => ?_) oT ?_)
      · rw [cpH_off p (by omega)]; exact oS p q2
      · exact H.copy
    have stop : ∀ t1 : sg, (∀ q k, ¬ (q = 11 ∧ k < 52) → t1 q k = t q k) → w2 (some ((-20) - nI a, s)) ((M_copies (nI 156) (nI 0) t1).bind fun s2 => some ((-20) - nI a, s2)) JQ := fun t1 o1 => by
      rw [copies_eq (by decide) (by decide) (by omega)]
      refine w2sr (w2s ⟨rfl, R, ?_⟩)
      refine G0.fr (fun p q1 q2 => oS p q2) (fun q k a1 a2 a3 a4 => ?_) (HR.e (G0.h.off (fun p q1 q2 => oS p (by omega))) (fun i hi => ?_))
      · have z : cpM t1 156 0 52 q k = t1 q k := cpM_ne (by omega)
        exact z.trans ((o1 q k (by omega)).trans (oT q k a1 a2 a3 a4))
      · rw [cpM_at hi]
        show t1 11 (156 + i) = _
        rw [o1 _ _ (by omega)]
        exact hb i hi
    by_cases ca : a < N
    · obtain ⟨n, rfl⟩ : ∃ m, n = m + 1 := ⟨n - 1, by omega⟩
      obtain ⟨fu', rfl⟩ : ∃ m, fu' = m + 1 := ⟨fu' - 1, by omega⟩
      have S : SH s t := G0.sh.k (fun p _ _ => oS p (by omega)) (oT.fn (by decide)) (oT.fn (by decide)) (oT.fn (by decide))
      obtain ⟨z1, m, m1, m2, m3, m4⟩ := S j hj
      have r1 : M_read_56 (nI j) x2 x3 (nI N) (fu' + 1 + 2) (nI 0) (nI a) (nI (2 * a)) t = M_read_126 (M_read_56 (nI j) x2 x3 (nI N) (fu' + 1 + 1)) (nI j) x2 x3 (nI N) (nI a) (nI (2 * a)) (fcV t j x2 x3 m (2 * a)) t := rf_step hj m1 m3 (by omega) hN
      have r2 : M_read_56 (nI j) x2 x3 (nI N) (fu' + 1 + 1) (nI 0) (nI a) (nI (2 * a + 1)) t = M_read_126 (M_read_56 (nI j) x2 x3 (nI N) (fu' + 1)) (nI j) x2 x3 (nI N) (nI a) (nI (2 * a + 1)) (fcV t j x2 x3 m (2 * a + 1)) t := rf_step hj m1 m3 (by omega) hN
      rw [r1, C_read_54, if_pos ((nI_ltI (by omega) (by omega)).mpr ca), if_pos (by decide), cl_pair S hj m3 hx]
      refine w2sl ?_
      by_cases c0 : fcV t j x2 x3 m (2 * a) = 0
      · rw [if_pos c0, show fcV t j x2 x3 m (2 * a) = nI 0 from c0, rdf_ev (by omega), r2]
        by_cases c1 : fcV t j x2 x3 m (2 * a + 1) = 0
        · obtain ⟨d1, d2⟩ := fc_0 c0
          obtain ⟨f1, f2⟩ := fc_0 c1
          obtain ⟨i, hi, ei⟩ := nI_of d1
          have hin : i < m := by rw [ei] at d2; exact (nI_ltI hi (by omega)).mp d2
          have ei1 : x3 + nI (2 * a + 1) = nI (i + 1) := by rw [← nI_add, ← Int32.add_assoc, ei, nI_add]
          have hin1 : i + 1 < m := by rw [ei1] at f2; exact (nI_ltI (by omega) (by omega)).mp f2
          rw [if_pos c1, show fcV t j x2 x3 m (2 * a + 1) = nI 0 from c1, rdf_od hj (by omega) (by omega) ei1, pk_mul, ei]
          refine w2l rfl (by omega) (by decide) (w2l (nI_add i 1) (by omega) (by decide) ?_)
          rw [m4 i hin, m4 (i + 1) hin1]
          unfold H_takesMarkAndHour
          rcases marks_2 (x1 := t 22 (40 * j + i)) (x2 := t 22 (40 * j + (i + 1))) H ((oT.ob (by decide)).trans G0.r) with ⟨v, h1, h2, g1, g2⟩ | ⟨j', c, hj', hc, u1, u2, c3, g1, g2⟩
          · rw [g1, g2]
            refine w2sr ?_
            dsimp only
            rw [if_pos h2]
            show w2 ((if v = 0 then _ else some (nI 0, s)).bind _) _ JQ
            rw [if_neg h1]
            refine w2sl ?_
            dsimp only
            rw [if_pos (by decide)]
            unfold M_read_192 M_read_193
            rw [if_pos (by decide)]
            exact stop t (fun _ _ _ => rfl)
          · rw [g1, g2]
            refine w2sr ?_
            dsimp only
            obtain ⟨_, ⟨c', hc', e24⟩, _⟩ := H.to j' hj'
            rw [pg0] at e24
            have u49 : up t 11 (24 + j') (nI c) 11 49 = t 11 49 := up_k (by omega)
            rw [e24, if_neg (nI_pos (by omega))]
            show w2 ((if nI 0 = 0 then (if s 53 2 < nI 999 then (midx (t 22 (40 * j + i)) 6).bind _ else some (nI 0, s)) else some (nI 0, s)).bind _) _ JQ
            have e49 : s 53 2 = t 11 49 := by rw [H.hr, pg0]
            rw [if_pos (by decide), e49]
            by_cases c4 : t 11 49 < nI 999
            · have c4' : up t 11 (24 + j') (nI c) 11 49 < nI 999 := by rw [u49]; exact c4
              rw [if_pos c4, if_pos c4', u1, midx_nI (by omega) (by decide)]
              have H5 : HR (up s (53 + 5) j' (nI c)) 53 (gu (pg t 0) (24 + j') (nI c)) R := H.set5 hj' hc
              have e9' : gu (pg t 0) (24 + j') (nI c) 49 = nI h := by rw [gu_ne (by omega)]; exact e9
              have hlt : h < 999 := by rw [← pg0 (t := t), e9] at c4; exact (nI_ltI (by omega) (by decide)).mp c4
              obtain ⟨s2, es, H2, o2⟩ := X_passHour H5 e9' (by omega)
              have ep : pg (up t 11 (24 + j') (nI c)) 0 = gu (pg t 0) (24 + j') (nI c) := pg_up0
              obtain ⟨t2, et, P2, q2⟩ := Y_goesOn (t := up t 11 (24 + j') (nI c)) (p := 0) (R := R) (h := h) (by decide) h6 (by rw [up_p (by decide)]; exact (oT.ob (by decide)).trans G0.r) (by rw [ep]; exact e9') (by omega)
              rw [ep] at P2
              show w2 (((H_passHour 53 (up s (53 + 5) j' (t 22 (40 * j + (i + 1))))).bind fun s2 => some (nI 1, s2)).bind _) _ JQ
              rw [u2, es]
              refine w2sl ?_
              dsimp only
              rw [if_neg (by decide), nI_add]
              unfold M_read_193
              rw [if_neg (by decide), et]
              refine w2sr ?_
              rw [nI_add, nI_add, show 2 * a + 1 + 1 = 2 * (a + 1) by omega]
              refine J_rd hj hN G0 hx n (a + 1) (fu + 1) (fu' + 1) s2 t2 (h + 1) (oS.tr (fun p hp => ?_)) (oT.tr ((offG.u (by omega)).tr q2.g)) (by rw [P2]; exact H2) (by rw [P2]; exact nextV_49 h6 e9') (by omega) (fun i' hi' => ?_) (by omega) (by omega) (by omega)
              · rw [o2 p (by omega), up_off (by omega)]
              · rw [← hb i' hi']
                show t2 11 (156 + i') = t 11 (156 + i')
                rw [q2 11 _ (by omega) (by decide), up_k (by omega)]
            · have c4' : ¬ up t 11 (24 + j') (nI c) 11 49 < nI 999 := by rw [u49]; exact c4
              rw [if_neg c4, if_neg c4']
              refine w2sl ?_
              dsimp only
              rw [if_pos (by decide)]
              unfold M_read_192 M_read_193
              rw [if_pos (by decide)]
              exact stop _ (fun q k hq => if_neg (fun w => hq ⟨w.1, by omega⟩))
        · rw [if_neg c1, cl_stop c1, rdf_ne c1, rf_stop c1]
          exact done _
      · rw [if_neg c0, if_neg c0, cl_stop c0, rdf_ne c0, rf_stop c0]
        exact done _
    · obtain rfl : n = 0 := by omega
      rw [C_read_54, if_neg (fun w => ca ((nI_ltI (by omega) (by omega)).mp w)), M_read_56, pk_mul, if_neg (fun w => by have := (nI_ltI (by omega) (by omega)).mp w; omega)]
      exact done _
theorem J_read (F : RF s t) : w2 (C_read x1 x2 x3 x4 s) (M_read x1 x2 x3 x4 t) JF := by
  obtain ⟨⟨R, G⟩, I, M⟩ := F
  refine J.fin ?_ (W_C_read I) (fun _ h => h.1) (V_M_read M) (fun _ h => h.1)
  have H := G.h
  have h6 := H.r6
  obtain ⟨R', h, hh, Hs⟩ := I.1
  have e9 := G.hh Hs
  unfold C_read M_read
  refine w2P within_eq (inP (by decide) (by decide)) (fun _ => w2s ⟨rfl, R, G⟩) (fun c1 => ?_)
  obtain ⟨j, hj, rfl⟩ := in_j (by decide) c1
  refine w2P within_eq (inP (by decide) (by decide)) (fun _ => w2s ⟨rfl, R, G⟩) (fun c2 => ?_)
  refine w2P within_eq (inP (by decide) (by decide)) (fun _ => w2s ⟨rfl, R, G⟩) (fun c3 => ?_)
  obtain ⟨N, hN, rfl⟩ := in_j (by decide) c3
  refine w2l rfl (by omega) (by decide) ?_
  unfold C_copyOfNow
  rw [copyFrom_eq (show dj 53 11 from Or.inr (by decide)), copies_eq (by decide) (by decide) (by omega)]
  refine w2sl (w2sr ?_)
  have ep : ∀ i, i < 52 → pg (cpM t 0 156 52) 0 i = pg t 0 i := fun i hi => by rw [pg0, pg0, cpM_ne (by omega)]
  refine J_rd (by omega) hN G (in_j (by decide) c2) N 0 FU FU _ _ h (fun p hp => ?_) (cpM_m (by decide)).g (HR.e H.copy ep) ((ep 49 (by decide)).trans e9) hh (fun i hi => cpM_at hi) (by omega) (by show N + 1 < 100000; omega) (by show 2 * N + 1 < 100000; omega)
  exact cpH_off p (by omega)
end READ
end Q67
