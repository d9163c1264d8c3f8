/-! tokens of the tape -/
def srV (x : Int32) : Int32 := if ¬ x < nI 97 ∧ ¬ nI 122 < x then nI 1 else if ¬ x < nI 48 ∧ ¬ nI 57 < x then nI 2 else if x = nI 59 then nI 3 else nI 4
def skV (b : Nat → Int32) : Nat → Nat → Nat
  | 0, p => p
  | n + 1, p => if b p = nI 32 then skV b n (p + 1) else p
def rnV (b : Nat → Int32) (k : Int32) : Nat → Nat → Nat
  | 0, p => p
  | n + 1, p => if srV (b p) = k then rnV b k n (p + 1) else p
def stV (b : Nat → Int32) (L p : Nat) : Nat := skV b (L - p) p
def tkS (b : Nat → Int32) (L p : Nat) : Int32 := if stV b L p < L then srV (b (stV b L p)) else nI 0
def tkE (b : Nat → Int32) (L p : Nat) : Nat := if tkS b L p = nI 1 ∨ tkS b L p = nI 2 then rnV b (tkS b L p) (L - stV b L p) (stV b L p) else if tkS b L p = nI 3 then stV b L p + 1 else stV b L p
def badT (b : Nat → Int32) (L p : Nat) : Prop := tkS b L p = nI 4 ∨ (tkS b L p = nI 2 ∧ stV b L p + 2 < tkE b L p)
def tvV (b : Nat → Int32) : Nat → Nat → Int32 → Int32
  | 0, _, a => a
  | n + 1, i, a => tvV b n (i + 1) ((nI 10 * a + b i) - nI 48)
def vlV (b : Nat → Int32) (L p : Nat) : Int32 := tvV b (tkE b L p - stV b L p) (stV b L p) (nI 0)
theorem skV_le {b : Nat → Int32} : ∀ n p : Nat, p ≤ skV b n p ∧ skV b n p ≤ p + n
  | 0, p => ⟨Nat.le_refl _, Nat.le_refl _⟩
  | n + 1, p => by
    rw [skV]
    by_cases c : b p = nI 32
    · rw [if_pos c]
      have h := skV_le (b := b) n (p + 1)
      omega
    · rw [if_neg c]; omega
theorem rnV_le {b : Nat → Int32} {k : Int32} : ∀ n p : Nat, p ≤ rnV b k n p ∧ rnV b k n p ≤ p + n
  | 0, p => ⟨Nat.le_refl _, Nat.le_refl _⟩
  | n + 1, p => by
    rw [rnV]
    by_cases c : srV (b p) = k
    · rw [if_pos c]
      have h := rnV_le (b := b) (k := k) n (p + 1)
      omega
    · rw [if_neg c]; omega
section TOKEN
variable {s t : sg} {b : Nat → Int32} {L p rr : Nat} {x x1 x2 x3 : Int32}
theorem stV_le (hp : p ≤ L) : p ≤ stV b L p ∧ stV b L p ≤ L := by
  have h := skV_le (b := b) (L - p) p
  unfold stV
  omega
theorem tkS_lt (h : ¬ tkS b L p = nI 0) : stV b L p < L := by
  unfold tkS at h
  by_cases c : stV b L p < L
  · exact c
  · rw [if_neg c] at h; exact absurd rfl h
theorem tkE_le (hp : p ≤ L) : stV b L p ≤ tkE b L p ∧ tkE b L p ≤ L := by
  have h := stV_le (b := b) hp
  unfold tkE
  by_cases c : tkS b L p = nI 1 ∨ tkS b L p = nI 2
  · rw [if_pos c]
    have h2 := rnV_le (b := b) (k := tkS b L p) (L - stV b L p) (stV b L p)
    omega
  · rw [if_neg c]
    by_cases d : tkS b L p = nI 3
    · rw [if_pos d]
      have := tkS_lt (b := b) (L := L) (p := p) (by rw [d]; decide)
      omega
    · rw [if_neg d]; omega
theorem srV_1 (x : Int32) : srV x = nI 1 ↔ (¬ x < nI 97 ∧ ¬ nI 122 < x) := by
  unfold srV
  by_cases c : ¬ x < nI 97 ∧ ¬ nI 122 < x
  · rw [if_pos c]; exact ⟨fun _ => c, fun _ => rfl⟩
  · rw [if_neg c]
    refine ⟨fun h => ?_, fun h => absurd h c⟩
    by_cases d : ¬ x < nI 48 ∧ ¬ nI 57 < x
    · rw [if_pos d] at h; exact absurd h (by decide)
    · rw [if_neg d] at h
      by_cases e : x = nI 59
      · rw [if_pos e] at h; exact absurd h (by decide)
      · rw [if_neg e] at h; exact absurd h (by decide)
theorem srV_2 (x : Int32) : srV x = nI 2 ↔ (¬ x < nI 48 ∧ ¬ nI 57 < x) := by
  unfold srV
  by_cases c : ¬ x < nI 97 ∧ ¬ nI 122 < x
  · rw [if_pos c]
    refine ⟨fun h => absurd h (by decide), fun h => ?_⟩
    have e1 : (nI 97).toInt = 97 := rfl
    have e2 : (nI 57).toInt = 57 := rfl
    have h1 := c.1
    have h2 := h.2
    rw [Int32.lt_iff_toInt_lt, e1] at h1
    rw [Int32.lt_iff_toInt_lt, e2] at h2
    omega
  · rw [if_neg c]
    by_cases d : ¬ x < nI 48 ∧ ¬ nI 57 < x
    · rw [if_pos d]; exact ⟨fun _ => d, fun _ => rfl⟩
    · rw [if_neg d]
      refine ⟨fun h => ?_, fun h => absurd h d⟩
      by_cases e : x = nI 59
      · rw [if_pos e] at h; exact absurd h (by decide)
      · rw [if_neg e] at h; exact absurd h (by decide)
theorem sortOf_eq : T_sortOf x s = some (srV x) := by
  unfold T_sortOf T_sortOf_14 T_sortOf_28 srV
  have tail : (if x < nI 48 then (if x = nI 59 then some (nI 3) else some (nI 4)) else if nI 57 < x then (if x = nI 59 then some (nI 3) else some (nI 4)) else some (nI 2)) = some (if ¬ x < nI 48 ∧ ¬ nI 57 < x then nI 2 else if x = nI 59 then nI 3 else nI 4) := by
    by_cases d : ¬ x < nI 48 ∧ ¬ nI 57 < x
    · rw [if_pos d, if_neg d.1, if_neg d.2]
    · rw [if_neg d]
      have z : (if x = nI 59 then some (nI 3) else some (nI 4)) = some (if x = nI 59 then nI 3 else nI 4) := by
        by_cases e : x = nI 59
        · rw [if_pos e, if_pos e]
        · rw [if_neg e, if_neg e]
      rw [z]
      by_cases f : x < nI 48
      · rw [if_pos f]
      · rw [if_neg f]
        by_cases f2 : nI 57 < x
        · rw [if_pos f2]
        · exact absurd ⟨f, f2⟩ d
  rw [tail]
  by_cases c : ¬ x < nI 97 ∧ ¬ nI 122 < x
  · rw [if_pos c, if_neg c.1, if_neg c.2]
  · rw [if_neg c]
    by_cases f : x < nI 97
    · rw [if_pos f]
    · rw [if_neg f]
      by_cases f2 : nI 122 < x
      · rw [if_pos f2]
      · exact absurd ⟨f, f2⟩ c
theorem up_self {q k : Nat} {v : Int32} (h : s q k = v) : up s q k v = s := by
  funext a j
  unfold up
  by_cases c : a = q ∧ j = k
  · rw [if_pos c, c.1, c.2, h]
  · rw [if_neg c]
theorem up_up {q k : Nat} {v w : Int32} : up (up s q k v) q k w = up s q k w := by
  funext a j
  unfold up
  by_cases c : a = q ∧ j = k
  · rw [if_pos c, if_pos c]
  · rw [if_neg c, if_neg c, if_neg c]
theorem K_place5 (hL : L ≤ 160) (eL : s 27 1 = nI L) (hb : ∀ i, i < L → s 28 i = b i) : ∀ (n p fu : Nat), p + n = L → n < fu → T_placeOfNext_5 s fu (nI p) = some (nI (skV b n p))
  | n, p, 0, hr, hf => absurd hf (by omega)
  | n, p, fu + 1, hr, hf => by
    rw [T_placeOfNext_5, eL]
    by_cases c : p < L
    · obtain ⟨n, rfl⟩ : ∃ k, n = k + 1 := ⟨n - 1, by omega⟩
      rw [if_pos ((nI_ltI (by omega) (by omega)).mpr c), midx_nI (by omega) (by decide)]
      show (if s 28 p = nI 32 then T_placeOfNext_5 s fu (nI p + nI 1) else some (nI p)) = _
      rw [hb p c, skV, nI_add]
      by_cases d : b p = nI 32
      · rw [if_pos d, if_pos d]; exact K_place5 hL eL hb n (p + 1) fu (by omega) (by omega)
      · rw [if_neg d, if_neg d]
    · obtain rfl : n = 0 := by omega
      rw [if_neg (fun w => c ((nI_ltI (by omega) (by omega)).mp w))]; rfl
theorem K_place (hL : L ≤ 160) (eL : s 27 1 = nI L) (hb : ∀ i, i < L → s 28 i = b i) (e8 : s 27 8 = nI p) (hp : p ≤ L) : T_placeOfNext s = some (nI (stV b L p)) := by
  unfold T_placeOfNext stV
  rw [e8]
  exact K_place5 hL eL hb (L - p) p FU (by omega) (by show L - p < 100000; omega)
theorem K_81 {k : Int32} (hL : L ≤ 160) : ∀ (n q fu : Nat) (s : sg), s 27 1 = nI L → (∀ i, i < L → s 28 i = b i) → s 27 8 = nI q → s 27 6 = k → q + n = L → n < fu → T_nextToken_81 fu s = T_nextToken_124 (up s 27 8 (nI (rnV b k n q)))
  | n, q, 0, s, eL, hb, e8, e6, hr, hf => absurd hf (by omega)
  | n, q, fu + 1, s, eL, hb, e8, e6, hr, hf => by
    rw [T_nextToken_81, eL, e8]
    by_cases c : q < L
    · obtain ⟨n, rfl⟩ : ∃ k, n = k + 1 := ⟨n - 1, by omega⟩
      rw [if_pos ((nI_ltI (by omega) (by omega)).mpr c), midx_nI (by omega) (by decide)]
      show ((T_sortOf (s 28 q) s).bind fun v1 => if v1 = s 27 6 then T_nextToken_81 fu (up s 27 8 (nI q + nI 1)) else T_nextToken_124 s) = _
      rw [sortOf_eq, hb q c, e6]
      show (if srV (b q) = k then _ else _) = _
      rw [rnV, nI_add]
      by_cases d : srV (b q) = k
      · rw [if_pos d, if_pos d, K_81 hL n (q + 1) fu _ ((up_k (by decide)).trans eL) (fun i hi => (up_p (by decide)).trans (hb i hi)) up_eq ((up_k (by decide)).trans e6) (by omega) (by omega), up_up]
      · rw [if_neg d, if_neg d, up_self e8]
    · obtain rfl : n = 0 := by omega
      rw [if_neg (fun w => c ((nI_ltI (by omega) (by omega)).mp w)), rnV, up_self e8]
def keepT (s s' : sg) : Prop := ∀ q k, ¬ (q = 27 ∧ (k = 6 ∨ k = 7 ∨ k = 8)) → s' q k = s q k
theorem K_tok (hL : L ≤ 160) (eL : s 27 1 = nI L) (hb : ∀ i, i < L → s 28 i = b i) (e8 : s 27 8 = nI p) (hp : p ≤ L) : ∃ S : sg, T_nextToken s = T_nextToken_124 S ∧ keepT s S ∧ S 27 6 = tkS b L p ∧ S 27 7 = nI (stV b L p) ∧ S 27 8 = nI (tkE b L p) := by
  have hst := stV_le (b := b) hp
  unfold T_nextToken
  rw [K_place hL eL hb e8 hp]
  generalize hS : stV b L p = st at *
  have e1 : (up (up s 27 7 (nI st)) 27 8 ((up s 27 7 (nI st)) 27 7)) = up (up s 27 7 (nI st)) 27 8 (nI st) := by rw [up_eq]
  show ∃ S : sg, (if (up (up s 27 7 (nI st)) 27 8 ((up s 27 7 (nI st)) 27 7)) 27 7 < (up (up s 27 7 (nI st)) 27 8 ((up s 27 7 (nI st)) 27 7)) 27 1 then (midx ((up (up s 27 7 (nI st)) 27 8 ((up s 27 7 (nI st)) 27 7)) 27 7) 160).bind (fun j1 => (T_sortOf ((up (up s 27 7 (nI st)) 27 8 ((up s 27 7 (nI st)) 27 7)) 28 j1) (up (up s 27 7 (nI st)) 27 8 ((up s 27 7 (nI st)) 27 7))).bind fun v2 => T_nextToken_44 v2 (up (up s 27 7 (nI st)) 27 8 ((up s 27 7 (nI st)) 27 7))) else T_nextToken_44 (nI 0) (up (up s 27 7 (nI st)) 27 8 ((up s 27 7 (nI st)) 27 7))) = T_nextToken_124 S ∧ _
  rw [e1]
  have hk : ∀ y : Int32, y = tkS b L p → ∃ S : sg, T_nextToken_44 y (up (up s 27 7 (nI st)) 27 8 (nI st)) = T_nextToken_124 S ∧ keepT s S ∧ S 27 6 = tkS b L p ∧ S 27 7 = nI st ∧ S 27 8 = nI (tkE b L p) := fun y hy => by
    have base : keepT s (up (up (up s 27 7 (nI st)) 27 8 (nI st)) 27 6 y) := fun q k h => by
      rw [up, if_neg (fun w => h ⟨w.1, by omega⟩), up, if_neg (fun w => h ⟨w.1, by omega⟩), up, if_neg (fun w => h ⟨w.1, by omega⟩)]
    have kee : ∀ v : Int32, keepT s (up (up (up (up s 27 7 (nI st)) 27 8 (nI st)) 27 6 y) 27 8 v) := fun v q k h => by
      rw [up, if_neg (fun w => h ⟨w.1, by omega⟩)]; exact base q k h
    have b6 : (up (up (up s 27 7 (nI st)) 27 8 (nI st)) 27 6 y) 27 6 = y := up_eq
    have b7 : (up (up (up s 27 7 (nI st)) 27 8 (nI st)) 27 6 y) 27 7 = nI st := by rw [up_k (by decide), up_k (by decide), up_eq]
    have b8 : (up (up (up s 27 7 (nI st)) 27 8 (nI st)) 27 6 y) 27 8 = nI st := by rw [up_k (by decide), up_eq]
    have b1 : (up (up (up s 27 7 (nI st)) 27 8 (nI st)) 27 6 y) 27 1 = nI L := by rw [base 27 1 (by omega)]; exact eL
    have bb : ∀ i, i < L → (up (up (up s 27 7 (nI st)) 27 8 (nI st)) 27 6 y) 28 i = b i := fun i hi => by rw [base 28 i (by omega)]; exact hb i hi
    generalize hT : up (up (up s 27 7 (nI st)) 27 8 (nI st)) 27 6 y = T at *
    unfold T_nextToken_44
    rw [hT]
    show ∃ S : sg, (if T 27 6 = nI 3 then T_nextToken_65 (up T 27 8 (T 27 8 + nI 1)) else T_nextToken_65 T) = T_nextToken_124 S ∧ _
    rw [b6]
    by_cases c3 : y = nI 3
    · rw [if_pos c3]
      unfold T_nextToken_65
      rw [up_k (by decide), b6, if_neg (by rw [c3]; decide), if_neg (by rw [c3]; decide), b8, nI_add]
      refine ⟨_, rfl, kee _, ?_, ?_, ?_⟩
      · rw [up_k (by decide), b6]; exact hy
      · rw [up_k (by decide)]; exact b7
      · rw [up_eq]
        unfold tkE
        rw [← hy, if_neg (by rw [c3]; decide), if_pos c3, hS]
    · rw [if_neg c3]
      unfold T_nextToken_65
      rw [b6]
      have run : y = nI 1 ∨ y = nI 2 → ∃ S : sg, T_nextToken_81 FU T = T_nextToken_124 S ∧ keepT s S ∧ S 27 6 = tkS b L p ∧ S 27 7 = nI st ∧ S 27 8 = nI (tkE b L p) := fun h => by
        rw [K_81 (b := b) (k := y) hL (L - st) st FU T b1 bb b8 b6 (by omega) (by show L - st < 100000; omega)]
        refine ⟨_, rfl, kee _, ?_, ?_, ?_⟩
        · rw [up_k (by decide), b6]; exact hy
        · rw [up_k (by decide)]; exact b7
        · rw [up_eq]
          unfold tkE
          rw [← hy, if_pos h, hS]
      by_cases c1 : y = nI 1
      · rw [if_pos c1]; exact run (Or.inl c1)
      · rw [if_neg c1]
        by_cases c2 : y = nI 2
        · rw [if_pos c2]; exact run (Or.inr c2)
        · rw [if_neg c2]
          refine ⟨_, rfl, base, b6.trans hy, b7, ?_⟩
          rw [b8]
          unfold tkE
          rw [← hy, if_neg (fun w => w.elim c1 c2), if_neg c3, hS]
  have f7 : (up (up s 27 7 (nI st)) 27 8 (nI st)) 27 7 = nI st := by rw [up_k (by decide), up_eq]
  have f1 : (up (up s 27 7 (nI st)) 27 8 (nI st)) 27 1 = nI L := by rw [up_k (by decide), up_k (by decide)]; exact eL
  rw [f7, f1]
  by_cases c : st < L
  · rw [if_pos ((nI_ltI (by omega) (by omega)).mpr c), midx_nI (by omega) (by decide)]
    show ∃ S : sg, ((T_sortOf ((up (up s 27 7 (nI st)) 27 8 (nI st)) 28 st) (up (up s 27 7 (nI st)) 27 8 (nI st))).bind fun v2 => T_nextToken_44 v2 (up (up s 27 7 (nI st)) 27 8 (nI st))) = T_nextToken_124 S ∧ _
    rw [sortOf_eq, up_p (by decide), up_p (by decide), hb st c]
    exact hk _ (by unfold tkS; rw [hS, if_pos c])
  · rw [if_neg (fun w => c ((nI_ltI (by omega) (by omega)).mp w))]
    exact hk _ (by unfold tkS; rw [hS, if_neg c])
end TOKEN
