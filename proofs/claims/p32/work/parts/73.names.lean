/-! names of lines, by both -/
def lnW (w : Nat) : Nat := enL.getD (w + 1) 0 - enL.getD w 0
def leW (w i : Nat) : Int32 := nI (leL.getD (enL.getD w 0 + i) 0)
def meq (f g : Nat → Int32) : Nat → Nat → Bool
  | 0, _ => true
  | n + 1, i => if f i = g i then meq f g n (i + 1) else false
def nmW (b : Nat → Int32) (st e w : Nat) : Bool := decide (e - st = lnW w) && meq (fun i => b (st + i)) (leW w) (lnW w) 0
def fnW (b : Nat → Int32) (st e : Nat) : Nat → Nat → Nat
  | 0, w => w
  | n + 1, w => if nmW b st e w = true then w else fnW b st e n (w + 1)
def clC (w : Nat) : Int32 := if w < 4 then nI w else nI (w + 6)
theorem ln_ro : ∀ w : Nat, w < 7 → (roS (3 + w)).length = lnW w ∧ lnW w ≤ 5 ∧ enL.getD w 0 ≤ enL.getD (w + 1) 0 ∧ enL.getD (w + 1) 0 ≤ 29 := by decide +kernel
theorem le_ro : ∀ w : Nat, w < 7 → ∀ i : Nat, i < 5 → i < lnW w → (roS (3 + w)).getD i 0 = leW w i := by decide +kernel
section NAMES
variable {s t s0 : sg} {b : Nat → Int32} {L p rr st e : Nat} {x x1 x2 x3 v : Int32}
theorem K_20 {w : Nat} (hw : w < 7) (hL : L ≤ 160) (hb : ∀ i, i < L → s 28 i = b i) (e7 : s 27 7 = nI st) (hl : st + lnW w ≤ L) : ∀ (n i fu : Nat), i + n = lnW w → n < fu → T_isNamed_20 (3 + w) s fu (nI i) = some (if meq (fun i => b (st + i)) (leW w) n i = true then nI 1 else nI 0)
  | n, i, 0, hr, hf => absurd hf (by omega)
  | n, i, fu + 1, hr, hf => by
    obtain ⟨l1, l2, _, _⟩ := ln_ro w hw
    rw [T_isNamed_20, l1]
    by_cases c : i < lnW w
    · obtain ⟨n, rfl⟩ : ∃ k, n = k + 1 := ⟨n - 1, by omega⟩
      rw [if_pos ((nI_ltI (by omega) (by omega)).mpr c), e7, nI_add, midx_nI (by omega) (by decide), midx_nI (by omega) (by omega)]
      show (if s 28 (st + i) = (roS (3 + w)).getD i 0 then T_isNamed_20 (3 + w) s fu (nI i + nI 1) else some (nI 0)) = _
      rw [hb _ (by omega), le_ro w hw i (by omega) c, nI_add, meq]
      by_cases d : b (st + i) = leW w i
      · rw [if_pos d, if_pos d]; exact K_20 hw hL hb e7 hl n (i + 1) fu (by omega) (by omega)
      · rw [if_neg d, if_neg d]; rfl
    · obtain rfl : n = 0 := by omega
      rw [if_neg (fun z => c ((nI_ltI (by omega) (by omega)).mp z))]; rfl
theorem K_named {w : Nat} (hw : w < 7) (hL : L ≤ 160) (hb : ∀ i, i < L → s 28 i = b i) (e7 : s 27 7 = nI st) (e8 : s 27 8 = nI e) (h1 : st ≤ e) (h2 : e ≤ L) : T_isNamed (3 + w) s = some (if nmW b st e w = true then nI 1 else nI 0) := by
  obtain ⟨l1, l2, _, _⟩ := ln_ro w hw
  unfold T_isNamed nmW
  rw [l1, e7, e8, sub_nI h1]
  by_cases c : e - st = lnW w
  · rw [if_pos (by rw [c]), K_20 hw hL hb e7 (by omega) (lnW w) 0 FU (by omega) (by show lnW w < 100000; omega), decide_eq_true c, Bool.true_and]
  · rw [if_neg (i32_ne c (by omega) (by omega)), decide_eq_false c, Bool.false_and]; rfl
theorem K_lineByName (hL : L ≤ 160) (hb : ∀ i, i < L → s 28 i = b i) (e7 : s 27 7 = nI st) (e8 : s 27 8 = nI e) (h1 : st ≤ e) (h2 : e ≤ L) : T_lineByName s = some (clC (fnW b st e 7 0)) := by
  have n0 : T_isNamed 3 s = _ := K_named (w := 0) (by decide) hL hb e7 e8 h1 h2
  have n1 : T_isNamed 4 s = _ := K_named (w := 1) (by decide) hL hb e7 e8 h1 h2
  have n2 : T_isNamed 5 s = _ := K_named (w := 2) (by decide) hL hb e7 e8 h1 h2
  have n3 : T_isNamed 6 s = _ := K_named (w := 3) (by decide) hL hb e7 e8 h1 h2
  have n4 : T_isNamed 7 s = _ := K_named (w := 4) (by decide) hL hb e7 e8 h1 h2
  have n5 : T_isNamed 8 s = _ := K_named (w := 5) (by decide) hL hb e7 e8 h1 h2
  have n6 : T_isNamed 9 s = _ := K_named (w := 6) (by decide) hL hb e7 e8 h1 h2
  unfold T_lineByName
  rw [n0, n1, n2, n3, n4, n5, n6]
  rw [fnW]
  by_cases c0 : nmW b st e 0 = true
  · rw [if_pos c0, if_pos c0]; rfl
  rw [if_neg c0, if_neg c0, fnW]
  by_cases c1 : nmW b st e 1 = true
  · rw [if_pos c1, if_pos c1]; rfl
  rw [if_neg c1, if_neg c1, fnW]
  by_cases c2 : nmW b st e 2 = true
  · rw [if_pos c2, if_pos c2]; rfl
  rw [if_neg c2, if_neg c2, fnW]
  by_cases c3 : nmW b st e 3 = true
  · rw [if_pos c3, if_pos c3]; rfl
  rw [if_neg c3, if_neg c3, fnW]
  by_cases c4 : nmW b st e 4 = true
  · rw [if_pos c4, if_pos c4]; rfl
  rw [if_neg c4, if_neg c4, fnW]
  by_cases c5 : nmW b st e 5 = true
  · rw [if_pos c5, if_pos c5]; rfl
  rw [if_neg c5, if_neg c5, fnW]
  by_cases c6 : nmW b st e 6 = true
  · rw [if_pos c6, if_pos c6]; rfl
  rw [if_neg c6, if_neg c6]; rfl
theorem R_51z {k2 : Int32 → Option Int32} {fu : Nat} : M_nameHere_51 k2 x1 t (fu + 1) (nI 0) x3 = k2 (x1 + nI 1) := by
  rw [M_nameHere_51, if_pos (by decide)]
  unfold M_nameHere_106
  rw [if_pos (by decide)]
theorem R_51 {k2 : Int32 → Option Int32} {w bb : Nat} (hw : w < 7) (X : TX t L e bb rr) (B : TB b L t) (A : LT t) (e3 : t 10 13 = nI st) (h1 : st ≤ e) (hl : e - st = lnW w) : ∀ (m i fu : Nat), i + m = e - st → m + 1 < fu → M_nameHere_51 k2 (nI w) t fu (nI 1) (nI i) = if meq (fun i => b (st + i)) (leW w) m i = true then some (nI w) else k2 (nI w + nI 1)
  | m, i, 0, hr, hf => absurd hf (by omega)
  | m, i, 1, hr, hf => absurd hf (by omega)
  | m, i, fu + 2, hr, hf => by
    have h2 := X.l2
    have hp := X.p2
    obtain ⟨_, l2, l3, l4⟩ := ln_ro w hw
    rw [M_nameHere_51, if_neg (by decide), X.p, e3, pk_sub h1]
    by_cases c : i < e - st
    · obtain ⟨m, rfl⟩ : ∃ k, m = k + 1 := ⟨m - 1, by omega⟩
      have hx : enL.getD w 0 + i < 29 := by unfold lnW at hl; omega
      rw [if_pos ((nI_ltI (by omega) (by omega)).mpr c), nI_add, byteAt_eq X (by omega), bt_b B (by omega)]
      show ((midx (nI w) 8).bind fun j1 => (midx ((t 14 j1) + nI i) 29).bind fun j2 => if b (st + i) = t 15 j2 then M_nameHere_51 k2 (nI w) t (fu + 1) (nI 1) (nI i + nI 1) else M_nameHere_51 k2 (nI w) t (fu + 1) (nI 0) (nI i + nI 1)) = _
      rw [midx_nI (by omega) (by decide)]
      show ((midx ((t 14 w) + nI i) 29).bind fun j2 => if b (st + i) = t 15 j2 then M_nameHere_51 k2 (nI w) t (fu + 1) (nI 1) (nI i + nI 1) else M_nameHere_51 k2 (nI w) t (fu + 1) (nI 0) (nI i + nI 1)) = _
      rw [A.1 w (by omega), nI_add, midx_nI hx (by decide)]
      show (if b (st + i) = t 15 (enL.getD w 0 + i) then M_nameHere_51 k2 (nI w) t (fu + 1) (nI 1) (nI i + nI 1) else M_nameHere_51 k2 (nI w) t (fu + 1) (nI 0) (nI i + nI 1)) = _
      rw [A.2 _ hx, nI_add, meq]
      by_cases d : b (st + i) = leW w i
      · rw [if_pos (show b (st + i) = nI (leL.getD (enL.getD w 0 + i) 0) from d), if_pos d]
        exact R_51 hw X B A e3 h1 hl m (i + 1) (fu + 1) (by omega) (by omega)
      · rw [if_neg (show ¬ b (st + i) = nI (leL.getD (enL.getD w 0 + i) 0) from d), if_neg d, R_51z]; rfl
    · obtain rfl : m = 0 := by omega
      rw [if_neg (fun z => c ((nI_ltI (by omega) (by omega)).mp z))]
      unfold M_nameHere_106
      rw [if_neg (by decide)]; rfl
theorem R_2 {bb : Nat} (X : TX t L e bb rr) (B : TB b L t) (A : LT t) (e3 : t 10 13 = nI st) (h1 : st ≤ e) (e14 : t 10 14 = nI 1) : ∀ (m w fu : Nat), w + m = 7 → m < fu → M_nameHere_2 t fu (nI w) = some (if fnW b st e m w = 7 then -4 else nI (fnW b st e m w))
  | m, w, 0, hr, hf => absurd hf (by omega)
  | m, w, fu + 1, hr, hf => by
    have h2 := X.l2
    have hp := X.p2
    rw [M_nameHere_2]
    by_cases c : w < 7
    · obtain ⟨m, rfl⟩ : ∃ k, m = k + 1 := ⟨m - 1, by omega⟩
      obtain ⟨_, l2, l3, l4⟩ := ln_ro w c
      rw [if_pos ((nI_ltI (by omega) (by decide)).mpr c), e14, if_pos rfl, nI_add, midx_nI (by omega) (by decide)]
      show ((midx (nI w) 8).bind fun j2 => if (t 10 12) - (t 10 13) = (t 14 (w + 1)) - (t 14 j2) then M_nameHere_51 (M_nameHere_2 t fu) (nI w) t FU (nI 1) (nI 0) else M_nameHere_51 (M_nameHere_2 t fu) (nI w) t FU (nI 0) (nI 0)) = _
      rw [midx_nI (by omega) (by decide)]
      show (if (t 10 12) - (t 10 13) = (t 14 (w + 1)) - (t 14 w) then M_nameHere_51 (M_nameHere_2 t fu) (nI w) t FU (nI 1) (nI 0) else M_nameHere_51 (M_nameHere_2 t fu) (nI w) t FU (nI 0) (nI 0)) = _
      rw [X.p, e3, pk_sub h1, A.1 (w + 1) (by omega), A.1 w (by omega), pk_sub l3]
      have next : M_nameHere_2 t fu (nI w + nI 1) = some (if fnW b st e m (w + 1) = 7 then -4 else nI (fnW b st e m (w + 1))) := by
        rw [nI_add]; exact R_2 X B A e3 h1 e14 m (w + 1) fu (by omega) (by omega)
      rw [fnW]
      by_cases d : e - st = lnW w
      · rw [if_pos (show nI (e - st) = nI (enL.getD (w + 1) 0 - enL.getD w 0) by rw [d]; rfl), R_51 c X B A e3 h1 d (e - st) 0 FU (by omega) (by show e - st + 1 < 100000; omega)]
        have en : nmW b st e w = meq (fun i => b (st + i)) (leW w) (e - st) 0 := by unfold nmW; rw [decide_eq_true d, Bool.true_and, d]
        rw [en]
        by_cases f : meq (fun i => b (st + i)) (leW w) (e - st) 0 = true
        · rw [if_pos f, if_pos f, if_neg (by omega)]
        · rw [if_neg f, if_neg f]; exact next
      · have en : ¬ nmW b st e w = true := by unfold nmW; rw [decide_eq_false d, Bool.false_and]; decide
        have z : M_nameHere_51 (M_nameHere_2 t fu) (nI w) t FU (nI 0) (nI 0) = M_nameHere_2 t fu (nI w + nI 1) := R_51z (fu := 99999)
        rw [if_neg (i32_ne (fun q => d (by unfold lnW; exact q)) (by omega) (by omega)), if_neg en, z]
        exact next
    · obtain rfl : m = 0 := by omega
      rw [if_neg (fun z => c ((nI_ltI (by omega) (by decide)).mp z)), fnW, if_pos (by omega)]
theorem fnW_le : ∀ m w : Nat, fnW b st e m w ≤ w + m
  | 0, w => Nat.le_refl _
  | m + 1, w => by
    rw [fnW]
    by_cases c : nmW b st e w = true
    · rw [if_pos c]; omega
    · rw [if_neg c]
      have := fnW_le m (w + 1)
      omega
end NAMES
