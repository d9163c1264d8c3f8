/-! a house as a page of numbers -/
def gu (g : Nat → Int32) (i : Nat) (v : Int32) : Nat → Int32 := fun j => if j = i then v else g j
theorem gu_eq {g : Nat → Int32} {i : Nat} {v : Int32} : gu g i v i = v := if_pos rfl
theorem gu_ne {g : Nat → Int32} {i j : Nat} {v : Int32} (h : j ≠ i) : gu g i v j = g j := if_neg h
theorem gu_self {g : Nat → Int32} {i : Nat} : gu g i (g i) = g := by
  funext j
  unfold gu
  by_cases h : j = i
  · rw [if_pos h, h]
  · rw [if_neg h]
def lowV (g : Nat → Int32) (r : Nat) : Int32 := if g (18 + r) - nI 1 = 0 then g (24 + r) - nI 2 else if g (18 + r) - nI 1 = nI 1 then g (24 + r) - nI 1 else g (24 + r) - nI 5
def highV (g : Nat → Int32) (r : Nat) : Int32 := if g (18 + r) - nI 1 = nI 1 then g (24 + r) + nI 1 else if g (18 + r) - nI 1 = nI 3 then g (24 + r) + nI 4 else g (24 + r) + nI 2
def newV (g : Nat → Int32) (r : Nat) : Int32 := if lowV g r < g r then (if g r < highV g r then g (30 + r) else nI 0) else nI 1
def incV (c : Int32) : Int32 := if c < nI 9999 then c + nI 1 else c
def swV (g : Nat → Int32) (r : Nat) : Nat → Int32 := if 0 < g (18 + r) then (if newV g r = g (30 + r) then g else gu (gu g 51 (incV (g 51))) (30 + r) (newV g r)) else g
def swN (g : Nat → Int32) : Nat → Nat → Nat → Int32
  | 0, _ => g
  | n + 1, r => swN (swV g r) n (r + 1)
def outW (g : Nat → Int32) (R r : Nat) : Int32 := if r + 1 < R then ((g (36 + r) + nI 2) * (g r - g (r + 1))) / nI 10 else nI 0
def innW (g : Nat → Int32) (R : Nat) : Nat → Int32
  | 0 => nI 0
  | r + 1 => outW g R r
def burnsV (g : Nat → Int32) (x2 : Int32) (r : Nat) : Prop := g (30 + r) = nI 1 ∧ x2 = 0
def bnV (g : Nat → Int32) (x2 : Int32) (r : Nat) : Int32 := if g (30 + r) = nI 1 ∧ x2 = 0 then g (12 + r) else nI 0
def lossV (g : Nat → Int32) (x1 : Int32) (r : Nat) : Int32 := (g (6 + r) * (g r - x1)) / nI 10
def clV (v : Int32) : Int32 := if v < 0 then nI 0 else if nI 99 < v then nI 99 else v
def warmV (g : Nat → Int32) (R : Nat) (x1 x2 : Int32) (r : Nat) : Int32 := clV ((((g r + innW g R r) - outW g R r) - lossV g x1 r) + bnV g x2 r)
def brV (g : Nat → Int32) (x2 : Int32) : Nat → Nat → Int32 → Int32
  | 0, _, c => c
  | n + 1, r, c => brV g x2 n (r + 1) (if g (30 + r) = nI 1 ∧ x2 = 0 then incV c else c)
/-- an hour half way: rooms below r are through -/
def midV (g : Nat → Int32) (R : Nat) (x1 x2 : Int32) (r : Nat) (c : Int32) : Nat → Int32 := fun i => if i < r then warmV g R x1 x2 i else if i = 50 then c else g i
def passV (R : Nat) (x1 x2 : Int32) (g : Nat → Int32) : Nat → Int32 := gu (midV g R x1 x2 R (brV g x2 R 0 (g 50))) 49 (g 49 + nI 1)
def hourV (R : Nat) (x1 x2 : Int32) (g : Nat → Int32) : Nat → Int32 := passV R x1 x2 (swN g R 0)
def skyV (g : Nat → Int32) : Int32 := g (41 + (g 49).toInt.toNat % 8) + nI 10
def nextV (R : Nat) (g : Nat → Int32) : Nat → Int32 := hourV R (skyV g) (nI 0) g
def hoursV (R : Nat) : Nat → (Nat → Int32) → Nat → Int32
  | 0, g => g
  | n + 1, g => hoursV R n (nextV R g)
/-! bits of the switched rooms -/
theorem bt_sh : ∀ m : Nat, m < 64 → ∀ r : Nat, r < 6 → ((nI m >>> (nI r &&& 31)) &&& nI 1) = nI (m / 2 ^ r % 2) := by decide +kernel
def flp (m r : Nat) : Nat := if m / 2 ^ r % 2 = 0 then m + 2 ^ r else m - 2 ^ r
theorem bt_x : ∀ m : Nat, m < 64 → ∀ r : Nat, r < 6 → (nI m ^^^ (nI 1 <<< (nI r &&& 31))) = nI (flp m r) := by decide +kernel
theorem flp_lt : ∀ R : Nat, R < 7 → ∀ m : Nat, m < 2 ^ R → ∀ r : Nat, r < R → flp m r < 2 ^ R := by decide +kernel
theorem flp_bt : ∀ m : Nat, m < 64 → ∀ r : Nat, r < 6 → ∀ q : Nat, q < 6 → flp m r / 2 ^ q % 2 = if q = r then 1 - m / 2 ^ r % 2 else m / 2 ^ q % 2 := by decide +kernel
def clr (m r : Nat) : Nat := if m / 2 ^ r % 2 = 0 then m else m - 2 ^ r
theorem bt_c : ∀ m : Nat, m < 64 → ∀ r : Nat, r < 6 → (nI m &&& ((nI 1 <<< (nI r &&& 31)) ^^^ (-1))) = nI (clr m r) := by decide +kernel
theorem clr_lt : ∀ R : Nat, R < 7 → ∀ m : Nat, m < 2 ^ R → ∀ r : Nat, r < R → clr m r < 2 ^ R := by decide +kernel
theorem clr_bt : ∀ m : Nat, m < 64 → ∀ r : Nat, r < 6 → ∀ q : Nat, q < 6 → clr m r / 2 ^ q % 2 = if q = r then 0 else m / 2 ^ q % 2 := by decide +kernel
theorem p64 {R m : Nat} (hR : R ≤ 6) (hm : m < 2 ^ R) : m < 64 := by
  have h : 2 ^ R ≤ 2 ^ 6 := Nat.pow_le_pow_right (by decide) hR
  have e : 2 ^ 6 = 64 := by decide
  omega
theorem add_nI0 (x : Int32) : x + nI 0 = x := by rw [nI_0, Int32.add_zero]
theorem i32_ne {a b : Nat} (h : a ≠ b) (ha : a < 2 ^ 31) (hb : b < 2 ^ 31) : ¬ nI a = nI b := fun w => h ((nI_eq ha hb).mp w)
/-! the class's house holds a page -/
def ON (x : Int32) (g : Nat → Int32) (R : Nat) : Prop := ∃ m : Nat, m < 2 ^ R ∧ x = nI m ∧ ∀ r, r < R → g (30 + r) = nI (m / 2 ^ r % 2)
def CN (x y : Int32) : Prop := x = y ∧ ∃ c : Nat, c ≤ 9999 ∧ y = nI c
def RM (a g : Nat → Int32) (o R : Nat) : Prop := ∀ r, r < R → a r = g (o + r)
def TO (a m g : Nat → Int32) (R : Nat) : Prop := ∀ r, r < R → (∃ k : Nat, k ≤ 4 ∧ g (18 + r) = nI k ∧ a r = nI k - nI 1) ∧ (∃ c : Nat, c ≤ 99 ∧ g (24 + r) = nI c) ∧ (0 < g (18 + r) → m r = g (24 + r))
def WA (a g : Nat → Int32) (R : Nat) : Prop := ∀ w, w + 1 < R → a w = g (36 + w) + nI 2
def OU (a g : Nat → Int32) : Prop := ∀ i, i < 8 → a i = g (41 + i) + nI 10
def HR (s : sg) (b : Nat) (g : Nat → Int32) (R : Nat) : Prop := R ≤ 6 ∧ s b 0 = nI R ∧ ON (s b 1) g R ∧ s b 2 = g 49 ∧ CN (s b 3) (g 50) ∧ CN (s b 4) (g 51) ∧ RM (s (b + 1)) g 0 R ∧ RM (s (b + 2)) g 6 R ∧ RM (s (b + 3)) g 12 R ∧ TO (s (b + 4)) (s (b + 5)) g R ∧ WA (s (b + 6)) g R ∧ OU (s (b + 7)) g
section VAL
variable {s s' : sg} {b R r o : Nat} {g g' a m : Nat → Int32} {x x1 x2 x3 y : Int32}
theorem ON.k (h : ON x g R) (e : ∀ r, r < R → g' (30 + r) = g (30 + r)) : ON x g' R := by
  obtain ⟨m, h1, h2, h3⟩ := h
  exact ⟨m, h1, h2, fun r hr => (e r hr).trans (h3 r hr)⟩
theorem RM.k (h : RM a g o R) (e : ∀ r, r < R → g' (o + r) = g (o + r)) : RM a g' o R := fun r hr => (h r hr).trans (e r hr).symm
theorem TO.k (h : TO a m g R) (e : ∀ r, r < R → g' (18 + r) = g (18 + r)) (f : ∀ r, r < R → g' (24 + r) = g (24 + r)) : TO a m g' R := fun r hr => by
  obtain ⟨⟨k, k1, k2, k3⟩, ⟨c, c1, c2⟩, h3⟩ := h r hr
  refine ⟨⟨k, k1, (e r hr).trans k2, k3⟩, ⟨c, c1, (f r hr).trans c2⟩, fun q => ?_⟩
  rw [e r hr] at q
  exact (h3 q).trans (f r hr).symm
theorem WA.k (h : WA a g R) (e : ∀ r, r + 1 < R → g' (36 + r) = g (36 + r)) : WA a g' R := fun r hr => by rw [e r hr]; exact h r hr
theorem OU.k (h : OU a g) (e : ∀ r, r < 8 → g' (41 + r) = g (41 + r)) : OU a g' := fun r hr => by rw [e r hr]; exact h r hr
theorem HR.r6 (H : HR s b g R) : R ≤ 6 := H.1
theorem HR.rm (H : HR s b g R) : s b 0 = nI R := H.2.1
theorem HR.on (H : HR s b g R) : ON (s b 1) g R := H.2.2.1
theorem HR.hr (H : HR s b g R) : s b 2 = g 49 := H.2.2.2.1
theorem HR.bu (H : HR s b g R) : CN (s b 3) (g 50) := H.2.2.2.2.1
theorem HR.sw (H : HR s b g R) : CN (s b 4) (g 51) := H.2.2.2.2.2.1
theorem HR.wm (H : HR s b g R) : RM (s (b + 1)) g 0 R := H.2.2.2.2.2.2.1
theorem HR.ls (H : HR s b g R) : RM (s (b + 2)) g 6 R := H.2.2.2.2.2.2.2.1
theorem HR.br (H : HR s b g R) : RM (s (b + 3)) g 12 R := H.2.2.2.2.2.2.2.2.1
theorem HR.to (H : HR s b g R) : TO (s (b + 4)) (s (b + 5)) g R := H.2.2.2.2.2.2.2.2.2.1
theorem HR.wa (H : HR s b g R) : WA (s (b + 6)) g R := H.2.2.2.2.2.2.2.2.2.2.1
theorem HR.ou (H : HR s b g R) : OU (s (b + 7)) g := H.2.2.2.2.2.2.2.2.2.2.2
theorem HR.w (H : HR s b g R) (hr : r < R) : s (b + 1) r = g r := by
  have h := H.wm r hr
  rwa [Nat.zero_add] at h
/-- the same house elsewhere -/
theorem HR.cp {c : Nat} (H : HR s c g R) (e0 : ∀ k, k < 5 → s' b k = s c k) (e : ∀ i k, 1 ≤ i → i ≤ 7 → k < hN i → s' (b + i) k = s (c + i) k) : HR s' b g R := by
  have h6 := H.r6
  refine ⟨H.r6, (e0 0 (by decide)).trans H.rm, ?_, (e0 2 (by decide)).trans H.hr, ?_, ?_, fun r hr => ?_, fun r hr => ?_, fun r hr => ?_, fun r hr => ?_, fun r hr => ?_, fun r hr => ?_⟩
  · rw [e0 1 (by decide)]; exact H.on
  · rw [e0 3 (by decide)]; exact H.bu
  · rw [e0 4 (by decide)]; exact H.sw
  · rw [e 1 r (by decide) (by decide) (by show r < 6; omega)]; exact H.wm r hr
  · rw [e 2 r (by decide) (by decide) (by show r < 6; omega)]; exact H.ls r hr
  · rw [e 3 r (by decide) (by decide) (by show r < 6; omega)]; exact H.br r hr
  · rw [e 4 r (by decide) (by decide) (by show r < 6; omega), e 5 r (by decide) (by decide) (by show r < 6; omega)]; exact H.to r hr
  · rw [e 6 r (by decide) (by decide) (by show r < 5; omega)]; exact H.wa r hr
  · rw [e 7 r (by decide) (by decide) (by show r < 8; omega)]; exact H.ou r hr
theorem HR.off (H : HR s b g R) (e : ∀ p, b ≤ p → p ≤ b + 7 → s' p = s p) : HR s' b g R :=
  H.cp (fun k _ => by rw [e b (by omega) (by omega)]) (fun i k _ _ _ => by rw [e (b + i) (by omega) (by omega)])
theorem HR.bit (H : HR s b g R) (hr : r < R) : g (30 + r) = nI 0 ∨ g (30 + r) = nI 1 := by
  obtain ⟨m, h1, h2, h3⟩ := H.on
  rcases Nat.mod_two_eq_zero_or_one (m / 2 ^ r) with q | q
  · exact Or.inl ((h3 r hr).trans (by rw [q]))
  · exact Or.inr ((h3 r hr).trans (by rw [q]))
theorem wbP {β : Type} {oo : Option Int32} {P : Prop} [Decidable P] {A B : Option β} {Q : β → Prop} (h : oo = some (if P then nI 1 else nI 0)) (k0 : ¬ P → wp A Q) (k1 : P → wp B Q) : wp (oo.bind fun v => if v = 0 then A else B) Q := by
  subst h
  by_cases c : P
  · rw [if_pos c]
    show wp (if nI 1 = 0 then A else B) Q
    rw [if_neg (by decide)]; exact k1 c
  · rw [if_neg c]
    show wp (if nI 0 = 0 then A else B) Q
    rw [if_pos (by decide)]; exact k0 c
theorem isOn_eq (H : HR s b g R) (hr : r < R) : H_isOn b (nI r) s = some (if g (30 + r) = nI 1 then nI 1 else nI 0) := by
  obtain ⟨m, h1, h2, h3⟩ := H.on
  have h6 := H.r6
  unfold H_isOn
  rw [h2, bt_sh m (p64 h6 h1) r (by omega), ← h3 r hr]
  by_cases c : g (30 + r) = nI 1
  · rw [if_pos c, if_pos c]
  · rw [if_neg c, if_neg c]
theorem hasTongue_eq (H : HR s b g R) (hr : r < R) : H_hasTongue b (nI r) s = some (if 0 < g (18 + r) then nI 1 else nI 0) := by
  have h6 := H.r6
  obtain ⟨⟨k, k1, k2, k3⟩, _⟩ := H.to r hr
  unfold H_hasTongue
  rw [midx_nI (show r < 6 by omega) (by decide)]
  show (if s (b + 4) r = -1 then some (nI 0) else some (nI 1)) = _
  rw [k2, k3]
  have hk : k = 0 ∨ k = 1 ∨ k = 2 ∨ k = 3 ∨ k = 4 := by omega
  rcases hk with rfl | rfl | rfl | rfl | rfl <;> decide
theorem lowOf_eq (H : HR s b g R) (hr : r < R) (ht : 0 < g (18 + r)) : H_lowOf b (nI r) s = some (lowV g r) := by
  have h6 := H.r6
  obtain ⟨⟨k, k1, k2, k3⟩, ⟨c, c1, c2⟩, h3⟩ := H.to r hr
  unfold H_lowOf lowV
  rw [midx_nI (show r < 6 by omega) (by decide)]
  show (midx (s (b + 4) r) 4).bind (fun j3 => some (s (b + 5) r + (roA 1).getD j3 0)) = _
  rw [h3 ht, k3, k2]
  rw [k2] at ht
  have hk : k = 0 ∨ k = 1 ∨ k = 2 ∨ k = 3 ∨ k = 4 := by omega
  rcases hk with rfl | rfl | rfl | rfl | rfl
  · exact absurd ht (by decide)
  · rw [show midx (nI 1 - nI 1) 4 = some 0 from by decide, if_pos (by decide)]
    show some (g (24 + r) + (-2)) = _
    rw [Int32.sub_eq_add_neg]; rfl
  · rw [show midx (nI 2 - nI 1) 4 = some 1 from by decide, if_neg (by decide), if_pos (by decide)]
    show some (g (24 + r) + (-1)) = _
    rw [Int32.sub_eq_add_neg]; rfl
  · rw [show midx (nI 3 - nI 1) 4 = some 2 from by decide, if_neg (by decide), if_neg (by decide)]
    show some (g (24 + r) + (-5)) = _
    rw [Int32.sub_eq_add_neg]; rfl
  · rw [show midx (nI 4 - nI 1) 4 = some 3 from by decide, if_neg (by decide), if_neg (by decide)]
    show some (g (24 + r) + (-5)) = _
    rw [Int32.sub_eq_add_neg]; rfl
theorem highOf_eq (H : HR s b g R) (hr : r < R) (ht : 0 < g (18 + r)) : H_highOf b (nI r) s = some (highV g r) := by
  have h6 := H.r6
  obtain ⟨⟨k, k1, k2, k3⟩, ⟨c, c1, c2⟩, h3⟩ := H.to r hr
  unfold H_highOf highV
  rw [midx_nI (show r < 6 by omega) (by decide)]
  show (midx (s (b + 4) r) 4).bind (fun j3 => some (s (b + 5) r + (roA 2).getD j3 0)) = _
  rw [h3 ht, k3, k2]
  rw [k2] at ht
  have hk : k = 0 ∨ k = 1 ∨ k = 2 ∨ k = 3 ∨ k = 4 := by omega
  rcases hk with rfl | rfl | rfl | rfl | rfl
  · exact absurd ht (by decide)
  · rw [show midx (nI 1 - nI 1) 4 = some 0 from by decide, if_neg (by decide), if_neg (by decide)]; rfl
  · rw [show midx (nI 2 - nI 1) 4 = some 1 from by decide, if_pos (by decide)]; rfl
  · rw [show midx (nI 3 - nI 1) 4 = some 2 from by decide, if_neg (by decide), if_neg (by decide)]; rfl
  · rw [show midx (nI 4 - nI 1) 4 = some 3 from by decide, if_neg (by decide), if_pos (by decide)]; rfl
theorem lohi : ∀ c : Nat, c < 100 → ∀ k : Nat, k < 5 → 0 < k → (if nI k - nI 1 = 0 then nI c - nI 2 else if nI k - nI 1 = nI 1 then nI c - nI 1 else nI c - nI 5) < (if nI k - nI 1 = nI 1 then nI c + nI 1 else if nI k - nI 1 = nI 3 then nI c + nI 4 else nI c + nI 2) := by decide +kernel
theorem low_high (H : HR s b g R) (hr : r < R) (ht : 0 < g (18 + r)) : lowV g r < highV g r := by
  obtain ⟨⟨k, k1, k2, k3⟩, ⟨c, c1, c2⟩, h3⟩ := H.to r hr
  unfold lowV highV
  rw [k2] at ht ⊢
  rw [c2]
  refine lohi c (by omega) k (by omega) ?_
  have h0 : (0 : Int32) = nI 0 := rfl
  rw [h0, nI_ltI (by decide) (by omega)] at ht
  exact ht
theorem inc_eq (h : CN x y) : (if x + nI 1 < nI 9999 then x + nI 1 else nI 9999) = incV y ∧ CN (incV y) (incV y) := by
  obtain ⟨rfl, c, hc, rfl⟩ := h
  unfold incV
  rw [nI_add]
  by_cases h1 : c < 9999
  · rw [if_pos ((nI_ltI (by omega) (by decide)).mpr h1)]
    refine ⟨?_, rfl, c + 1, by omega, rfl⟩
    by_cases h2 : c + 1 < 9999
    · rw [if_pos ((nI_ltI (by omega) (by decide)).mpr h2)]
    · rw [if_neg (fun w => h2 ((nI_ltI (by omega) (by decide)).mp w)), show c + 1 = 9999 by omega]
  · rw [if_neg (fun w => h1 ((nI_ltI (by omega) (by decide)).mp w))]
    refine ⟨?_, rfl, c, hc, rfl⟩
    rw [if_neg (fun w => by have := (nI_ltI (by omega) (by decide)).mp w; omega), show c = 9999 by omega]
/-- one tongue switches over -/
theorem HR.flip (H : HR s b g R) (hr : r < R) (y : Int32) (hy : g (30 + r) = nI 0 ∧ y = nI 1 ∨ g (30 + r) = nI 1 ∧ y = nI 0) :
    HR (up (up s b 1 (s b 1 ^^^ (nI 1 <<< (nI r &&& 31)))) b 4 (incV (g 51))) b (gu (gu g 51 (incV (g 51))) (30 + r) y) R := by
  obtain ⟨m, h1, h2, h3⟩ := H.on
  have h6 := H.r6
  have hne : ∀ k, k ≠ 51 → k ≠ 30 + r → gu (gu g 51 (incV (g 51))) (30 + r) y k = g k := fun k q1 q2 => by rw [gu_ne q2, gu_ne q1]
  have hs : ∀ p k, ¬ (p = b ∧ (k = 1 ∨ k = 4)) → up (up s b 1 (s b 1 ^^^ (nI 1 <<< (nI r &&& 31)))) b 4 (incV (g 51)) p k = s p k := fun p k q => by
    rw [up, if_neg (fun w => q ⟨w.1, Or.inr w.2⟩), up, if_neg (fun w => q ⟨w.1, Or.inl w.2⟩)]
  have hp : ∀ i, 1 ≤ i → up (up s b 1 (s b 1 ^^^ (nI 1 <<< (nI r &&& 31)))) b 4 (incV (g 51)) (b + i) = s (b + i) := fun i hi => by
    funext k; exact hs _ _ (fun w => by omega)
  refine ⟨h6, (hs b 0 (by omega)).trans H.rm, ?_, (hs b 2 (by omega)).trans (H.hr.trans (hne 49 (by decide) (by omega)).symm), ?_, ?_, ?_, ?_, ?_, ?_, ?_, ?_⟩
  · have e : up (up s b 1 (s b 1 ^^^ (nI 1 <<< (nI r &&& 31)))) b 4 (incV (g 51)) b 1 = nI (flp m r) := by
      rw [up_k (by decide), up_eq, h2, bt_x m (p64 h6 h1) r (by omega)]
    rw [e]
    refine ⟨flp m r, flp_lt R (by omega) m h1 r hr, rfl, fun q hq => ?_⟩
    rw [flp_bt m (p64 h6 h1) r (by omega) q (by omega)]
    by_cases c : q = r
    · subst c
      rw [if_pos rfl, gu_eq]
      have h4 := h3 q hr
      rcases hy with ⟨z1, rfl⟩ | ⟨z1, rfl⟩
      · rw [z1, nI_eq (by decide) (by omega)] at h4
        rw [← h4]
      · rw [z1, nI_eq (by decide) (by omega)] at h4
        rw [← h4]
    · rw [if_neg c, hne _ (by omega) (by omega)]; exact h3 q hq
  · rw [hs b 3 (by omega), hne 50 (by decide) (by omega)]; exact H.bu
  · rw [up_eq, gu_ne (by omega), gu_eq]; exact (inc_eq H.sw).2
  · rw [hp 1 (by decide)]; exact H.wm.k (fun q hq => hne _ (by omega) (by omega))
  · rw [hp 2 (by decide)]; exact H.ls.k (fun q hq => hne _ (by omega) (by omega))
  · rw [hp 3 (by decide)]; exact H.br.k (fun q hq => hne _ (by omega) (by omega))
  · rw [hp 4 (by decide), hp 5 (by decide)]; exact H.to.k (fun q hq => hne _ (by omega) (by omega)) (fun q hq => hne _ (by omega) (by omega))
  · rw [hp 6 (by decide)]; exact H.wa.k (fun q hq => hne _ (by omega) (by omega))
  · rw [hp 7 (by decide)]; exact H.ou.k (fun q hq => hne _ (by omega) (by omega))
theorem X_sw : ∀ (n r fu : Nat) (s : sg) (g : Nat → Int32), HR s b g R → r + n = R → n < fu → wp (H_switchAll_2 b fu (nI r) s) (fun s' => HR s' b (swN g n r) R ∧ swOff b s s')
  | n, r, 0, s, g, H, hr, hf => absurd hf (by omega)
  | n, r, fu + 1, s, g, H, hr, hf => by
    have h6 := H.r6
    rw [H_switchAll_2, H.rm]
    refine wi (fun c => ?_) (fun c => ?_)
    · rw [nI_ltI (by omega) (by omega)] at c
      obtain ⟨n, rfl⟩ : ∃ m, n = m + 1 := ⟨n - 1, by omega⟩
      have e1 : nI r + nI 1 = nI (r + 1) := nI_add r 1
      have next : ∀ s', HR s' b (swV g r) R → swOff b s s' → wp (H_switchAll_2 b fu (nI r + nI 1) s') (fun s' => HR s' b (swN g (n + 1) r) R ∧ swOff b s s') := fun s' H' o => by
        rw [e1]
        exact wc (X_sw n (r + 1) fu s' (swV g r) H' (by omega) (by omega)) (fun a ha => ⟨ha.1, fun p k hp => (ha.2 p k hp).trans (o p k hp)⟩)
      have stay : (0 < g (18 + r) → newV g r = g (30 + r)) → wp (H_switchAll_2 b fu (nI r + nI 1) s) (fun s' => HR s' b (swN g (n + 1) r) R ∧ swOff b s s') := fun h => by
        refine next s ?_ (fun _ _ _ => rfl)
        unfold swV
        by_cases q : 0 < g (18 + r)
        · rw [if_pos q, if_pos (h q)]; exact H
        · rw [if_neg q]; exact H
      have turn : 0 < g (18 + r) → (g (30 + r) = nI 0 ∧ newV g r = nI 1 ∨ g (30 + r) = nI 1 ∧ newV g r = nI 0) → wp (H_switchAll_67 (H_switchAll_2 b fu) b (nI r) (nI 1) s) (fun s' => HR s' b (swN g (n + 1) r) R ∧ swOff b s s') := fun q h => by
        unfold H_switchAll_67
        rw [if_neg (by decide)]
        refine wsb (wsb ?_)
        rw [up_k (show 4 ≠ 1 by decide), (inc_eq H.sw).1]
        have hn : ¬ newV g r = g (30 + r) := by
          rcases h with ⟨z1, z2⟩ | ⟨z1, z2⟩
          · rw [z1, z2]; decide
          · rw [z1, z2]; decide
        refine next _ ?_ (fun p k hp => ?_)
        · unfold swV
          rw [if_pos q, if_neg hn]
          exact H.flip c _ h
        · rw [up, if_neg (fun w => hp ⟨w.1, Or.inr w.2⟩), up, if_neg (fun w => hp ⟨w.1, Or.inl w.2⟩)]
      have stay0 : newV g r = g (30 + r) → wp (H_switchAll_67 (H_switchAll_2 b fu) b (nI r) (nI 0) s) (fun s' => HR s' b (swN g (n + 1) r) R ∧ swOff b s s') := fun h => by
        unfold H_switchAll_67
        rw [if_pos (by decide)]
        exact stay (fun _ => h)
      refine wbP (hasTongue_eq H c) (fun q => stay (fun w => absurd w q)) (fun q => ?_)
      refine wbP (isOn_eq H c) (fun q1 => ?_) (fun q1 => ?_)
      · have q0 : g (30 + r) = nI 0 := (H.bit c).resolve_right q1
        refine wm rfl (by omega) (by decide) ?_
        rw [lowOf_eq H c q]
        refine wsb ?_
        rw [H.w c]
        refine wi (fun w => stay0 ?_) (fun w => turn q (Or.inl ⟨q0, ?_⟩))
        · unfold newV
          rw [if_pos w, q0]
          by_cases z : g r < highV g r
          · rw [if_pos z]
          · rw [if_neg z]
        · unfold newV
          rw [if_neg w]
      · refine wm rfl (by omega) (by decide) ?_
        rw [highOf_eq H c q]
        refine wsb ?_
        rw [H.w c]
        refine wi (fun w => stay0 ?_) (fun w => turn q (Or.inr ⟨q1, ?_⟩))
        · unfold newV
          rw [if_pos w, q1]
          by_cases z : lowV g r < g r
          · rw [if_pos z]
          · rw [if_neg z]
        · unfold newV
          have z : lowV g r < g r := by
            have h := low_high H c q
            rw [Int32.lt_iff_toInt_lt] at h w ⊢
            omega
          rw [if_pos z, if_neg w]
    · rw [nI_ltI (by omega) (by omega)] at c
      obtain rfl : n = 0 := by omega
      exact ws ⟨H, fun _ _ _ => rfl⟩
theorem X_switchAll (H : HR s b g R) : wp (H_switchAll b s) (fun s' => HR s' b (swN g R 0) R ∧ swOff b s s') := by
  unfold H_switchAll
  exact X_sw R 0 FU s g H (by omega) (by have := H.r6; show R < 100000; omega)
end VAL
