section Q70
/-! tokens of the tape -/
def srV (x : Int32) : Int32 := if ¬ x < nI 97 ∧ ¬ nI 122 < x then nI 1 else if ¬ x < nI 48 ∧ ¬ nI 57 < x then nI 2 else if x = nI 59 then nI 3 else nI 4
def skV (b : Nat → Int32) : Nat → Nat → Nat
  | 0, p => p
  | n + 1, p => if b p = nI 32 then skV b n (p + 1) else p
def rnV (b : Nat → Int32) (k : Int32) : Nat → Nat → Nat
  | 0, p => p
  | n + 1, p => if srV (b p) = k then rnV b k n (p + 1) else p
def stV (b : Nat → Int32) (L p : Nat) : Nat := skV b (L - p) p
def tkS (b : Nat → Int32) (L p : Nat) : Int32 := if stV b L p < L then srV (b (stV b L p)) else nI 0
def tkE (b : Nat → Int32) (L p : Nat) : Nat := if tkS b L p = nI 1 ∨ tkS b L p = nI 2 then rnV b (tkS b L p) (L - stV b L p) (stV b L p) else if tkS b L p = nI 3 then stV b L p + 1 else stV b L p
def badT (b : Nat → Int32) (L p : Nat) : Prop := tkS b L p = nI 4 ∨ (tkS b L p = nI 2 ∧ stV b L p + 2 < tkE b L p)
def tvV (b : Nat → Int32) : Nat → Nat → Int32 → Int32
  | 0, _, a => a
  | n + 1, i, a => tvV b n (i + 1) ((nI 10 * a + b i) - nI 48)
def vlV (b : Nat → Int32) (L p : Nat) : Int32 := tvV b (tkE b L p - stV b L p) (stV b L p) (nI 0)
theorem skV_le {b : Nat → Int32} : ∀ n p : Nat, p ≤ skV b n p ∧ skV b n p ≤ p + n
  | 0, p => ⟨Nat.le_refl _, Nat.le_refl _⟩
  | n + 1, p => by
    rw [skV]
    by_cases c : b p = nI 32
    · rw [if_pos c]
      have h := skV_le (b := b) n (p + 1)
      omega
    · rw [if_neg c]; omega
theorem rnV_le {b : Nat → Int32} {k : Int32} : ∀ n p : Nat, p ≤ rnV b k n p ∧ rnV b k n p ≤ p + n
  | 0, p => ⟨Nat.le_refl _, Nat.le_refl _⟩
  | n + 1, p => by
    rw [rnV]
    by_cases c : srV (b p) = k
    · rw [if_pos c]
      have h := rnV_le (b := b) (k := k) n (p + 1)
      omega
    · rw [if_neg c]; omega
section TOKEN
variable {s t : sg} {b : Nat → Int32} {L p rr : Nat} {x x1 x2 x3 : Int32}
theorem stV_le (hp : p ≤ L) : p ≤ stV b L p ∧ stV b L p ≤ L := by
  have h := skV_le (b := b) (L - p) p
  unfold stV
  omega
theorem tkS_lt (h : ¬ tkS b L p = nI 0) : stV b L p < L := by
  unfold tkS at h
  by_cases c : stV b L p < L
  · exact c
  · rw [if_neg c] at h; exact absurd rfl h
theorem tkE_le (hp : p ≤ L) : stV b L p ≤ tkE b L p ∧ tkE b L p ≤ L := by
  have h := stV_le (b := b) hp
  unfold tkE
  by_cases c : tkS b L p = nI 1 ∨ tkS b L p = nI 2
  · rw [if_pos c]
    have h2 := rnV_le (b := b) (k := tkS b L p) (L - stV b L p) (stV b L p)
    omega
  · rw [if_neg c]
    by_cases d : tkS b L p = nI 3
    · rw [if_pos d]
      have := tkS_lt (b := b) (L := L) (p := p) (by rw [d]; decide)
      omega
    · rw [if_neg d]; omega
theorem srV_1 (x : Int32) : srV x = nI 1 ↔ (¬ x < nI 97 ∧ ¬ nI 122 < x) := by
  unfold srV
  by_cases c : ¬ x < nI 97 ∧ ¬ nI 122 < x
  · rw [if_pos c]; exact ⟨fun _ => c, fun _ => rfl⟩
  · rw [if_neg c]
    refine ⟨fun h => ?_, fun h => absurd h c⟩
    by_cases d : ¬ x < nI 48 ∧ ¬ nI 57 < x
    · rw [if_pos d] at h; exact absurd h (by decide)
    · rw [if_neg d] at h
      by_cases e : x = nI 59
      · rw [if_pos e] at h; exact absurd h (by decide)
      · rw [if_neg e] at h; exact absurd h (by decide)
theorem srV_2 (x : Int32) : srV x = nI 2 ↔ (¬ x < nI 48 ∧ ¬ nI 57 < x) := by
  unfold srV
  by_cases c : ¬ x < nI 97 ∧ ¬ nI 122 < x
  · rw [if_pos c]
    refine ⟨fun h => absurd h (by decide), fun h => ?_⟩
    have e1 : (nI 97).toInt = 97 := rfl
    have e2 : (nI 57).toInt = 57 := rfl
    have h1 := c.1
    have h2 := h.2
    rw [Int32.lt_iff_toInt_lt, e1] at h1
    rw [Int32.lt_iff_toInt_lt, e2] at h2
    omega
  · rw [if_neg c]
    by_cases d : ¬ x < nI 48 ∧ ¬ nI 57 < x
    · rw [if_pos d]; exact ⟨fun _ => d, fun _ => rfl⟩
    · rw [if_neg d]
      refine ⟨fun h => ?_, fun h => absurd h d⟩
      by_cases e : x = nI 59
      · rw [if_pos e] at h; exact absurd h (by decide)
      · rw [if_neg e] at h; exact absurd h (by decide)
theorem sortOf_eq : T_sortOf x s = some (srV x) := by
  unfold T_sortOf T_sortOf_14 T_sortOf_28 srV
  have tail : (if x < nI 48 then (if x = nI 59 then some (nI 3) else some (nI 4)) else if nI 57 < x then (if x = nI 59 then some (nI 3) else some (nI 4)) else some (nI 2)) = some (if ¬ x < nI 48 ∧ ¬ nI 57 < x then nI 2 else if x = nI 59 then nI 3 else nI 4) := by
    by_cases d : ¬ x < nI 48 ∧ ¬ nI 57 < x
    · rw [if_pos d, if_neg d.1, if_neg d.2]
    · rw [if_neg d]
      have z : (if x = nI 59 then some (nI 3) else some (nI 4)) = some (if x = nI 59 then nI 3 else nI 4) := by
        by_cases e : x = nI 59
        · rw [if_pos e, if_pos e]
        · rw [if_neg e, if_neg e]
      rw [z]
      by_cases f : x < nI 48
      · rw [if_pos f]
      · rw [if_neg f]
        by_cases f2 : nI 57 < x
        · rw [if_pos f2]
        · exact absurd ⟨f, f2⟩ d
  rw [tail]
  by_cases c : ¬ x < nI 97 ∧ ¬ nI 122 < x
  · rw [if_pos c, if_neg c.1, if_neg c.2]
  · rw [if_neg c]
    by_cases f : x < nI 97
    · rw [if_pos f]
    · rw [if_neg f]
      by_cases f2 : nI 122 < x
      · rw [if_pos f2]
      · exact absurd ⟨f, f2⟩ c
theorem up_self {q k : Nat} {v : Int32} (h : s q k = v) : up s q k v = s := by
  funext a j
  unfold up
  by_cases c : a = q ∧ j = k
  · rw [if_pos c, c.1, c.2, h]
  · rw [if_neg c]
theorem up_up {q k : Nat} {v w : Int32} : up (up s q k v) q k w = up s q k w := by
  funext a j
  unfold up
  by_cases c : a = q ∧ j = k
  · rw [if_pos c, if_pos c]
  · rw [if_neg c, if_neg c, if_neg c]
theorem K_place5 (hL : L ≤ 160) (eL : s 27 1 = nI L) (hb : ∀ i, i < L → s 28 i = b i) : ∀ (n p fu : Nat), p + n = L → n < fu → T_placeOfNext_5 s fu (nI p) = some (nI (skV b n p))
  | n, p, 0, hr, hf => absurd hf (by omega)
  | n, p, fu + 1, hr, hf => by
    rw [T_placeOfNext_5, eL]
    by_cases c : p < L
    · obtain ⟨n, rfl⟩ : ∃ k, n = k + 1 := ⟨n - 1, by omega⟩
      rw [if_pos ((nI_ltI (by omega) (by omega)).mpr c), midx_nI (by omega) (by decide)]
      show (if s 28 p = nI 32 then T_placeOfNext_5 s fu (nI p + nI 1) else some (nI p)) = _
      rw [hb p c, skV, nI_add]
      by_cases d : b p = nI 32
      · rw [if_pos d, if_pos d]; exact K_place5 hL eL hb n (p + 1) fu (by omega) (by omega)
      · rw [if_neg d, if_neg d]
    · obtain rfl : n = 0 := by omega
      rw [if_neg (fun w => c ((nI_ltI (by omega) (by omega)).mp w))]; rfl
theorem K_place (hL : L ≤ 160) (eL : s 27 1 = nI L) (hb : ∀ i, i < L → s 28 i = b i) (e8 : s 27 8 = nI p) (hp : p ≤ L) : T_placeOfNext s = some (nI (stV b L p)) := by
  unfold T_placeOfNext stV
  rw [e8]
  exact K_place5 hL eL hb (L - p) p FU (by omega) (by show L - p < 100000; omega)
theorem K_81 {k : Int32} (hL : L ≤ 160) : ∀ (n q fu : Nat) (s : sg), s 27 1 = nI L → (∀ i, i < L → s 28 i = b i) → s 27 8 = nI q → s 27 6 = k → q + n = L → n < fu → T_nextToken_81 fu s = T_nextToken_124 (up s 27 8 (nI (rnV b k n q)))
  | n, q, 0, s, eL, hb, e8, e6, hr, hf => absurd hf (by omega)
  | n, q, fu + 1, s, eL, hb, e8, e6, hr, hf => by
    rw [T_nextToken_81, eL, e8]
    by_cases c : q < L
    · obtain ⟨n, rfl⟩ : ∃ k, n = k + 1 := ⟨n - 1, by omega⟩
      rw [if_pos ((nI_ltI (by omega) (by omega)).mpr c), midx_nI (by omega) (by decide)]
      show ((T_sortOf (s 28 q) s).bind fun v1 => if v1 = s 27 6 then T_nextToken_81 fu (up s 27 8 (nI q + nI 1)) else T_nextToken_124 s) = _
      rw [sortOf_eq, hb q c, e6]
      show (if srV (b q) = k then _ else _) = _
      rw [rnV, nI_add]
      by_cases d : srV (b q) = k
      · rw [if_pos d, if_pos d, K_81 hL n (q + 1) fu _ ((up_k (by decide)).trans eL) (fun i hi => (up_p (by decide)).trans (hb i hi)) up_eq ((up_k (by decide)).trans e6) (by omega) (by omega), up_up]
      · rw [if_neg d, if_neg d, up_self e8]
    · obtain rfl : n = 0 := by omega
      rw [if_neg (fun w => c ((nI_ltI (by omega) (by omega)).mp w)), rnV, up_self e8]
def keepT (s s' : sg) : Prop := ∀ q k, ¬ (q = 27 ∧ (k = 6 ∨ k = 7 ∨ k = 8)) → s' q k = s q k
theorem K_tok (hL : L ≤ 160) (eL : s 27 1 = nI L) (hb : ∀ i, i < L → s 28 i = b i) (e8 : s 27 8 = nI p) (hp : p ≤ L) : ∃ S : sg, T_nextToken s = T_nextToken_124 S ∧ keepT s S ∧ S 27 6 = tkS b L p ∧ S 27 7 = nI (stV b L p) ∧ S 27 8 = nI (tkE b L p) := by
  have hst := stV_le (b := b) hp
  unfold T_nextToken
  rw [K_place hL eL hb e8 hp]
  generalize hS : stV b L p = st at *
  have e1 : (up (up s 27 7 (nI st)) 27 8 ((up s 27 7 (nI st)) 27 7)) = up (up s 27 7 (nI st)) 27 8 (nI st) := by rw [up_eq]
  show ∃ S : sg, (if (up (up s 27 7 (nI st)) 27 8 ((up s 27 7 (nI st)) 27 7)) 27 7 < (up (up s 27 7 (nI st)) 27 8 ((up s 27 7 (nI st)) 27 7)) 27 1 then (midx ((up (up s 27 7 (nI st)) 27 8 ((up s 27 7 (nI st)) 27 7)) 27 7) 160).bind (fun j1 => (T_sortOf ((up (up s 27 7 (nI st)) 27 8 ((up s 27 7 (nI st)) 27 7)) 28 j1) (up (up s 27 7 (nI st)) 27 8 ((up s 27 7 (nI st)) 27 7))).bind fun v2 => T_nextToken_44 v2 (up (up s 27 7 (nI st)) 27 8 ((up s 27 7 (nI st)) 27 7))) else T_nextToken_44 (nI 0) (up (up s 27 7 (nI st)) 27 8 ((up s 27 7 (nI st)) 27 7))) = T_nextToken_124 S ∧ _
  rw [e1]
  have hk : ∀ y : Int32, y = tkS b L p → ∃ S : sg, T_nextToken_44 y (up (up s 27 7 (nI st)) 27 8 (nI st)) = T_nextToken_124 S ∧ keepT s S ∧ S 27 6 = tkS b L p ∧ S 27 7 = nI st ∧ S 27 8 = nI (tkE b L p) := fun y hy => by
    have base : keepT s (up (up (up s 27 7 (nI st)) 27 8 (nI st)) 27 6 y) := fun q k h => by
      rw [up, if_neg (fun w => h ⟨w.1, by omega⟩), up, if_neg (fun w => h ⟨w.1, by omega⟩), up, if_neg (fun w => h ⟨w.1, by omega⟩)]
    have kee : ∀ v : Int32, keepT s (up (up (up (up s 27 7 (nI st)) 27 8 (nI st)) 27 6 y) 27 8 v) := fun v q k h => by
      rw [up, if_neg (fun w => h ⟨w.1, by omega⟩)]; exact base q k h
    have b6 : (up (up (up s 27 7 (nI st)) 27 8 (nI st)) 27 6 y) 27 6 = y := up_eq
    have b7 : (up (up (up s 27 7 (nI st)) 27 8 (nI st)) 27 6 y) 27 7 = nI st := by rw [up_k (by decide), up_k (by decide), up_eq]
    have b8 : (up (up (up s 27 7 (nI st)) 27 8 (nI st)) 27 6 y) 27 8 = nI st := by rw [up_k (by decide), up_eq]
    have b1 : (up (up (up s 27 7 (nI st)) 27 8 (nI st)) 27 6 y) 27 1 = nI L := by rw [base 27 1 (by omega)]; exact eL
    have bb : ∀ i, i < L → (up (up (up s 27 7 (nI st)) 27 8 (nI st)) 27 6 y) 28 i = b i := fun i hi => by rw [base 28 i (by omega)]; exact hb i hi
    generalize hT : up (up (up s 27 7 (nI st)) 27 8 (nI st)) 27 6 y = T at *
    unfold T_nextToken_44
    rw [hT]
    show ∃ S : sg, (if T 27 6 = nI 3 then T_nextToken_65 (up T 27 8 (T 27 8 + nI 1)) else T_nextToken_65 T) = T_nextToken_124 S ∧ _
    rw [b6]
    by_cases c3 : y = nI 3
    · rw [if_pos c3]
      unfold T_nextToken_65
      rw [up_k (by decide), b6, if_neg (by rw [c3]; decide), if_neg (by rw [c3]; decide), b8, nI_add]
      refine ⟨_, rfl, kee _, ?_, ?_, ?_⟩
      · rw [up_k (by decide), b6]; exact hy
      · rw [up_k (by decide)]; exact b7
      · rw [up_eq]
        unfold tkE
        rw [← hy, if_neg (by rw [c3]; decide), if_pos c3, hS]
    · rw [if_neg c3]
      unfold T_nextToken_65
      rw [b6]
      have run : y = nI 1 ∨ y = nI 2 → ∃ S : sg, T_nextToken_81 FU T = T_nextToken_124 S ∧ keepT s S ∧ S 27 6 = tkS b L p ∧ S 27 7 = nI st ∧ S 27 8 = nI (tkE b L p) := fun h => by
        rw [K_81 (b := b) (k := y) hL (L - st) st FU T b1 bb b8 b6 (by omega) (by show L - st < 100000; omega)]
        refine ⟨_, rfl, kee _, ?_, ?_, ?_⟩
        · rw [up_k (by decide), b6]; exact hy
        · rw [up_k (by decide)]; exact b7
        · rw [up_eq]
          unfold tkE
          rw [← hy, if_pos h, hS]
      by_cases c1 : y = nI 1
      · rw [if_pos c1]; exact run (Or.inl c1)
      · rw [if_neg c1]
        by_cases c2 : y = nI 2
        · rw [if_pos c2]; exact run (Or.inr c2)
        · rw [if_neg c2]
          refine ⟨_, rfl, base, b6.trans hy, b7, ?_⟩
          rw [b8]
          unfold tkE
          rw [← hy, if_neg (fun w => w.elim c1 c2), if_neg c3, hS]
  have f7 : (up (up s 27 7 (nI st)) 27 8 (nI st)) 27 7 = nI st := by rw [up_k (by decide), up_eq]
  have f1 : (up (up s 27 7 (nI st)) 27 8 (nI st)) 27 1 = nI L := by rw [up_k (by decide), up_k (by decide)]; exact eL
  rw [f7, f1]
  by_cases c : st < L
  · rw [if_pos ((nI_ltI (by omega) (by omega)).mpr c), midx_nI (by omega) (by decide)]
    show ∃ S : sg, ((T_sortOf ((up (up s 27 7 (nI st)) 27 8 (nI st)) 28 st) (up (up s 27 7 (nI st)) 27 8 (nI st))).bind fun v2 => T_nextToken_44 v2 (up (up s 27 7 (nI st)) 27 8 (nI st))) = T_nextToken_124 S ∧ _
    rw [sortOf_eq, up_p (by decide), up_p (by decide), hb st c]
    exact hk _ (by unfold tkS; rw [hS, if_pos c])
  · rw [if_neg (fun w => c ((nI_ltI (by omega) (by omega)).mp w))]
    exact hk _ (by unfold tkS; rw [hS, if_neg c])
end TOKEN
end Q70
section Q71
/-! the next token, by both -/
section STEP
variable {s t t0' : sg} {b : Nat → Int32} {L p rr : Nat} {x x1 x2 x3 v : Int32}
/-- a fault is kept -/
def FK (s s' : sg) : Prop := ¬ s 27 3 = 0 → s' 27 3 = s 27 3 ∧ s' 27 4 = s 27 4
theorem FK.rf : FK s s := fun _ => ⟨rfl, rfl⟩
theorem FK.tr {s' s'' : sg} (h1 : FK s s') (h2 : FK s' s'') : FK s s'' := fun h => by
  obtain ⟨a, c⟩ := h1 h
  obtain ⟨a2, c2⟩ := h2 (by rw [a]; exact h)
  exact ⟨a2.trans a, c2.trans c⟩
theorem FK.up {q k : Nat} (h : q ≠ 27 ∨ (k ≠ 3 ∧ k ≠ 4)) : FK s (up s q k v) := fun _ => ⟨if_neg (by omega), if_neg (by omega)⟩
theorem K_fail {c : Nat} (hc : 0 < c) (hc2 : c < 1000) : wp (T_fail (nI c) x2 s) (fun s' => keepF s s' ∧ ¬ s' 27 3 = 0 ∧ FK s s' ∧ (s 27 3 = 0 → s' 27 4 = x2)) := by
  unfold T_fail
  refine wi (fun h => wsb (wsb (ws ⟨fun q k hq => ?_, ?_, fun w => absurd h w, fun _ => up_eq⟩))) (fun h => ws ⟨keepF.rf, h, FK.rf, fun w => absurd w h⟩)
  · rw [up, if_neg (fun w => hq ⟨w.1, Or.inr w.2⟩), up, if_neg (fun w => hq ⟨w.1, Or.inl w.2⟩)]
  · rw [up_k (by decide), up_eq]; exact nI_ne0 hc (by omega)
/-- what the class's nextToken leaves -/
def NT (b : Nat → Int32) (L p : Nat) (s s' : sg) : Prop := keepC s s' ∧ s' 27 7 = nI (stV b L p) ∧ s' 27 8 = nI (tkE b L p) ∧ FK s s' ∧ (¬ badT b L p → s' 27 6 = tkS b L p ∧ (s 27 3 = 0 → s' 27 3 = 0)) ∧ (badT b L p → s 27 3 = 0 → ¬ s' 27 3 = 0 ∧ s' 27 4 = nI (stV b L p))
theorem K_next (hL : L ≤ 160) (eL : s 27 1 = nI L) (hb : ∀ i, i < L → s 28 i = b i) (e8 : s 27 8 = nI p) (hp : p ≤ L) : wp (T_nextToken s) (NT b L p s) := by
  obtain ⟨S, e, k, e6, e7, e8'⟩ := K_tok hL eL hb e8 hp
  have hE := tkE_le (b := b) hp
  rw [e]
  have k3 : S 27 3 = s 27 3 := k 27 3 (by omega)
  have k4 : S 27 4 = s 27 4 := k 27 4 (by omega)
  have kC : keepC s S := fun q j h => k q j (fun w => h ⟨w.1, by omega⟩)
  have good : ¬ badT b L p → wp (some S) (NT b L p s) := fun nb => ws ⟨kC, e7, e8', fun _ => ⟨k3, k4⟩, fun _ => ⟨e6, fun h => k3.trans h⟩, fun w => absurd w nb⟩
  have bad : badT b L p → wp (T_nextToken_153 S) (NT b L p s) := fun hbad => by
    unfold T_nextToken_153
    refine wsb (wb (K_fail (by decide) (by decide)) (fun s2 g => ws ⟨kC.tr ((keepC.ud (by omega)).tr g.1.c), ?_, ?_, ?_, fun w => absurd hbad w, fun _ h => ⟨g.2.1, ?_⟩⟩))
    · rw [g.1 27 7 (by omega), up_k (by decide)]; exact e7
    · rw [g.1 27 8 (by omega), up_k (by decide)]; exact e8'
    · exact FK.tr (fun _ => ⟨k3, k4⟩) (FK.tr (FK.up (by omega)) g.2.2.1)
    · rw [g.2.2.2 (by rw [up_k (by decide), k3]; exact h), up_k (by decide)]; exact e7
  unfold T_nextToken_124
  rw [e6]
  refine wi (fun c => bad (Or.inl c)) (fun c => wi (fun c2 => ?_) (fun c2 => good (fun w => w.elim c (fun z => c2 z.1))))
  rw [e7, e8', sub_nI hE.1]
  refine wi (fun d => bad (Or.inr ⟨c2, ?_⟩)) (fun d => good (fun w => w.elim c (fun z => d ?_)))
  · have := (nI_ltI (by decide) (by omega)).mp d
    omega
  · refine (nI_ltI (by decide) (by omega)).mpr ?_
    have := z.2
    omega
theorem K_tv7 (hL : L ≤ 160) (hb : ∀ i, i < L → s 28 i = b i) (e6 : s 27 6 = nI 2) {e : Nat} (e8 : s 27 8 = nI e) (he : e ≤ L) : ∀ (n i fu : Nat) (a : Int32), i + n = e → n < fu → T_tokenValue_7 s fu a (nI i) = some (tvV b n i a)
  | n, i, 0, a, hr, hf => absurd hf (by omega)
  | n, i, fu + 1, a, hr, hf => by
    rw [T_tokenValue_7, e8, e6]
    by_cases c : i < e
    · obtain ⟨n, rfl⟩ : ∃ k, n = k + 1 := ⟨n - 1, by omega⟩
      rw [if_pos ((nI_ltI (by omega) (by omega)).mpr c), if_pos rfl, midx_nI (by omega) (by decide)]
      show T_tokenValue_7 s fu ((nI 10 * a + s 28 i) - nI 48) (nI i + nI 1) = _
      rw [hb i (by omega), nI_add, tvV]
      exact K_tv7 hL hb e6 e8 he n (i + 1) fu _ (by omega) (by omega)
    · obtain rfl : n = 0 := by omega
      rw [if_neg (fun w => c ((nI_ltI (by omega) (by omega)).mp w))]; rfl
theorem K_value (hL : L ≤ 160) (hb : ∀ i, i < L → s 28 i = b i) (hp : p ≤ L) (e6 : s 27 6 = nI 2) (e7 : s 27 7 = nI (stV b L p)) (e8 : s 27 8 = nI (tkE b L p)) : T_tokenValue s = some (vlV b L p) := by
  have h := tkE_le (b := b) hp
  unfold T_tokenValue vlV
  rw [e7]
  exact K_tv7 hL hb e6 e8 h.2 _ _ FU _ (by omega) (by show tkE b L p - stV b L p < 100000; omega)
/-- bytes of the tape, at the reference -/
def TB (b : Nat → Int32) (L : Nat) (t : sg) : Prop := ∀ i, i < L → t 13 i = b i ∧ ∃ c : Nat, c < 128 ∧ b i = nI c
theorem TB.k {t' : sg} (h : TB b L t) (o : offK t t') : TB b L t' := fun i hi => by
  rw [o 13 i (by omega)]; exact h i hi
theorem bt_b (B : TB b L t) {q : Nat} (hq : q < L) : bt t L q = b q := by
  unfold bt
  rw [if_pos hq]; exact (B q hq).1
theorem bt_e {q : Nat} (hq : L ≤ q) : bt t L q = -4 := by
  unfold bt
  rw [if_neg (by omega)]
theorem R_84 : ∀ (n q fu : Nat) (t : sg), TX t L q 0 rr → TB b L t → q + n = L → n < fu → M_step_84 fu t = some (up (up t 10 12 (nI (rnV b (nI 1) n q))) 10 14 (nI 1))
  | n, q, 0, t, X, B, hr, hf => absurd hf (by omega)
  | n, q, fu + 1, t, X, B, hr, hf => by
    have h2 := X.l2
    rw [M_step_84, X.p, byteAt_eq X (by omega)]
    show ((M_in (bt t L q).toInt64 (97 : Int64) (122 : Int64) t).bind fun v2 => if v2 = 0 then some (up t 10 14 (nI 1)) else M_step_84 fu (up t 10 12 (nI q + nI 1))) = _
    rw [inP (lo := nI 97) (hi := nI 122) (by decide) (by decide)]
    by_cases c : q < L
    · obtain ⟨n, rfl⟩ : ∃ k, n = k + 1 := ⟨n - 1, by omega⟩
      rw [bt_b B c, rnV, nI_add]
      by_cases d : ¬ b q < nI 97 ∧ ¬ nI 122 < b q
      · rw [if_pos d, if_pos ((srV_1 _).mpr d)]
        show (if nI 1 = 0 then some (up t 10 14 (nI 1)) else M_step_84 fu (up t 10 12 (nI (q + 1)))) = _
        rw [if_neg (by decide), R_84 n (q + 1) fu _ (X.u12 (by omega)) (B.k (offK.u (by decide))) (by omega) (by omega), up_up]
      · rw [if_neg d, if_neg (fun w => d ((srV_1 _).mp w)), up_self X.p]; rfl
    · obtain rfl : n = 0 := by omega
      rw [bt_e (by omega), rnV, up_self X.p]; rfl
/-- a number's letters, at the reference -/
theorem R_140 {st : Nat} : ∀ (n q fu : Nat) (t : sg) (v : Int32), TX t L q 0 rr → TB b L t → t 10 13 = nI st → t 10 15 = v → st ≤ q → q + n = L → n < fu → wp (M_step_140 fu t) (fun t' => offK t t' ∧ t' 10 13 = nI st ∧ (rnV b (nI 2) n q ≤ st + 2 → t' 10 10 = nI 0 ∧ t' 10 12 = nI (rnV b (nI 2) n q) ∧ t' 10 14 = nI 2 ∧ t' 10 15 = tvV b (rnV b (nI 2) n q - q) q v) ∧ (st + 2 < rnV b (nI 2) n q → ¬ t' 10 10 = 0 ∧ t' 10 11 = nI st))
  | n, q, 0, t, v, X, B, e3, e5, hs, hr, hf => absurd hf (by omega)
  | n, q, fu + 1, t, v, X, B, e3, e5, hs, hr, hf => by
    have h2 := X.l2
    rw [M_step_140, X.p, byteAt_eq X (by omega)]
    refine wsb ?_
    have fin : rnV b (nI 2) n q = q → wp ((some (up t 10 14 (nI 2))).bind fun s1 => if nI 2 < (s1 10 12) - (s1 10 13) then (M_fails (nI 1) s1).bind fun s2 => some s2 else some s1) (fun t' => offK t t' ∧ t' 10 13 = nI st ∧ (rnV b (nI 2) n q ≤ st + 2 → t' 10 10 = nI 0 ∧ t' 10 12 = nI (rnV b (nI 2) n q) ∧ t' 10 14 = nI 2 ∧ t' 10 15 = tvV b (rnV b (nI 2) n q - q) q v) ∧ (st + 2 < rnV b (nI 2) n q → ¬ t' 10 10 = 0 ∧ t' 10 11 = nI st)) := fun e => by
      rw [e]
      refine wsb ?_
      rw [up_k (by decide), up_k (by decide), X.p, e3, sub_nI hs]
      refine wi (fun c => ?_) (fun c => ?_)
      · have hc := (nI_ltI (by decide) (by omega)).mp c
        unfold M_fails
        rw [up_k (by decide), X.b, if_pos (by decide)]
        refine wsb (wsb (wsb (ws ⟨?_, ?_, fun w => absurd w (by omega), fun _ => ⟨?_, ?_⟩⟩)))
        · exact ((offK.u (by decide)).tr (offK.u (by decide))).tr (offK.u (by decide))
        · rw [up_k (by decide), up_k (by decide), up_k (by decide)]; exact e3
        · rw [up_k (by decide), up_eq]; decide
        · rw [up_eq, up_k (by decide), up_k (by decide)]; exact e3
      · have hc : ¬ 2 < q - st := fun w => c ((nI_ltI (by decide) (by omega)).mpr w)
        refine ws ⟨offK.u (by decide), (up_k (by decide)).trans e3, fun _ => ⟨(up_k (by decide)).trans X.b, (up_k (by decide)).trans X.p, up_eq, ?_⟩, fun w => absurd w (by omega)⟩
        rw [up_k (by decide), e5, Nat.sub_self]; rfl
    by_cases c : q < L
    · obtain ⟨n, rfl⟩ : ∃ k, n = k + 1 := ⟨n - 1, by omega⟩
      rw [bt_b B c]
      refine wbP (inP (lo := nI 48) (hi := nI 57) (by decide) (by decide)) (fun d => fin (by rw [rnV, if_neg (fun w => d ((srV_2 _).mp w))])) (fun d => ?_)
      have er : rnV b (nI 2) (n + 1) q = rnV b (nI 2) n (q + 1) := by rw [rnV, if_pos ((srV_2 _).mpr d)]
      have hle := rnV_le (b := b) (k := nI 2) n (q + 1)
      rw [er, e3, sub_nI hs]
      have go : ∀ y : Int32, (q < st + 2 → y = (nI 10 * v + b q) - nI 48) → wp (M_step_201 (M_step_140 fu) y t) (fun t' => offK t t' ∧ t' 10 13 = nI st ∧ (rnV b (nI 2) n (q + 1) ≤ st + 2 → t' 10 10 = nI 0 ∧ t' 10 12 = nI (rnV b (nI 2) n (q + 1)) ∧ t' 10 14 = nI 2 ∧ t' 10 15 = tvV b (rnV b (nI 2) n (q + 1) - q) q v) ∧ (st + 2 < rnV b (nI 2) n (q + 1) → ¬ t' 10 10 = 0 ∧ t' 10 11 = nI st)) := fun y hy => by
        unfold M_step_201
        refine wsb (wsb ?_)
        rw [up_k (by decide), X.p, nI_add]
        refine wc (R_140 n (q + 1) fu _ y ((X.u (by decide)).u12 (by omega)) ((B.k (offK.u (by decide))).k (offK.u (by decide))) ?_ ?_ (by omega) (by omega) (by omega)) (fun t' h => ⟨((offK.u (by decide)).tr (offK.u (by decide))).tr h.1, h.2.1, fun w => ?_, h.2.2.2⟩)
        · rw [up_k (by decide), up_k (by decide)]; exact e3
        · rw [up_k (by decide), up_eq]
        · obtain ⟨z1, z2, z3, z4⟩ := h.2.2.1 w
          refine ⟨z1, z2, z3, ?_⟩
          rw [z4, hy (by omega), show rnV b (nI 2) n (q + 1) - q = (rnV b (nI 2) n (q + 1) - (q + 1)) + 1 by omega, tvV]
      refine wi (fun f => ?_) (fun f => go _ (fun w => absurd ((nI_ltI (by omega) (by decide)).mpr (by omega)) f))
      refine wsb (go _ (fun _ => ?_))
      rw [e5]
    · obtain rfl : n = 0 := by omega
      rw [bt_e (by omega)]
      refine wbP (inP (lo := nI 48) (hi := nI 57) (by decide) (by decide)) (fun d => fin rfl) (fun d => absurd d (by decide))
/-- the reference stands at the token behind p -/
def CR (b : Nat → Int32) (L p : Nat) (t : sg) : Prop := t 10 10 = nI 0 ∧ t 10 13 = nI (stV b L p) ∧ t 10 12 = nI (tkE b L p) ∧ t 10 14 = tkS b L p ∧ (tkS b L p = nI 2 → t 10 15 = vlV b L p)
def RS (b : Nat → Int32) (L p : Nat) (t t' : sg) : Prop := offK t t' ∧ (¬ badT b L p → CR b L p t') ∧ (badT b L p → ¬ t' 10 10 = 0 ∧ t' 10 11 = nI (stV b L p))
theorem M_fails_0 {c : Nat} {st : Nat} (e : t 10 10 = nI 0) (e3 : t 10 13 = nI st) : M_fails (nI c) t = some (up (up t 10 10 (nI c)) 10 11 (nI st)) := by
  unfold M_fails
  rw [e, if_pos (by decide)]
  show some (up (up t 10 10 (nI c)) 10 11 ((up t 10 10 (nI c)) 10 13)) = _
  rw [up_k (by decide), e3]
theorem M_fails_1 {c : Int32} (e : ¬ t 10 10 = 0) : M_fails c t = some t := by
  unfold M_fails
  rw [if_neg e]
theorem R_8 : ∀ (n q fu : Nat) (t : sg), TX t L q 0 rr → TB b L t → stV b L p = skV b n q → q + n = L → n < fu → wp (M_step_8 fu t) (RS b L p t)
  | n, q, 0, t, X, B, hs, hr, hf => absurd hf (by omega)
  | n, q, fu + 1, t, X, B, hs, hr, hf => by
    have h2 := X.l2
    rw [M_step_8, X.p, byteAt_eq X (by omega)]
    refine wsb ?_
    by_cases c : q < L
    · obtain ⟨n, rfl⟩ : ∃ k, n = k + 1 := ⟨n - 1, by omega⟩
      rw [bt_b B c]
      rw [skV] at hs
      refine wi (fun d => ?_) (fun d => ?_)
      · rw [if_pos d] at hs
        rw [nI_add]
        refine wsb (wc (R_8 n (q + 1) fu _ (X.u12 (by omega)) (B.k (offK.u (by decide))) hs (by omega) (by omega)) (fun t' h => ⟨(offK.u (by decide)).tr h.1, h.2⟩))
      · rw [if_neg d] at hs
        refine wsb ?_
        have X1 : TX (up t 10 13 (nI q)) L q 0 rr := X.u (by decide)
        rw [X1.p, byteAt_eq X1 (by omega), bt_up, bt_b B c]
        refine wsb (wsb ?_)
        have hS : tkS b L p = srV (b q) := by unfold tkS; rw [hs, if_pos c]
        obtain ⟨cc, hc1, hc2⟩ := (B q c).2
        have o2 : offK t (up (up t 10 13 (nI q)) 10 15 (nI 0)) := (offK.u (by decide)).tr (offK.u (by decide))
        have X2 : TX (up (up t 10 13 (nI q)) 10 15 (nI 0)) L q 0 rr := X1.u (by decide)
        have B2 : TB b L (up (up t 10 13 (nI q)) 10 15 (nI 0)) := B.k o2
        have e3 : (up (up t 10 13 (nI q)) 10 15 (nI 0)) 10 13 = nI q := by rw [up_k (by decide), up_eq]
        have e5 : (up (up t 10 13 (nI q)) 10 15 (nI 0)) 10 15 = nI 0 := up_eq
        generalize up (up t 10 13 (nI q)) 10 15 (nI 0) = T at *
        rw [if_neg (show ¬ b q = -4 by rw [hc2]; exact fun w => absurd (nI_pos (n := cc) (by omega)) (by rw [w]; decide))]
        refine wbP (inP (lo := nI 97) (hi := nI 122) (by decide) (by decide)) (fun f => wbP (inP (lo := nI 48) (hi := nI 57) (by decide) (by decide)) (fun f2 => ?_) (fun f2 => ?_)) (fun f => ?_)
        · refine wsb (wsb ?_)
          rw [up_k (by decide), X2.p, nI_add]
          have oo : offK t (up (up T 10 14 (nI 3)) 10 12 (nI (q + 1))) := o2.tr ((offK.u (by decide)).tr (offK.u (by decide)))
          refine wi (fun g => ?_) (fun g => ?_)
          · have hk : tkS b L p = nI 3 := by
              rw [hS]; unfold srV; rw [if_neg f, if_neg f2, if_pos g]
            have hE : tkE b L p = q + 1 := by unfold tkE; rw [hk, if_neg (by decide), if_pos rfl, hs]
            refine ws ⟨oo, fun _ => ⟨?_, ?_, ?_, ?_, fun w => absurd (hk.symm.trans w) (by decide)⟩, fun w => ?_⟩
            · rw [up_k (by decide), up_k (by decide)]; exact X2.b
            · rw [up_k (by decide), up_k (by decide), hs]; exact e3
            · rw [up_eq, hE]
            · rw [up_k (by decide), up_eq, hk]
            · unfold badT at w
              rw [hk] at w
              exact absurd w (fun z => z.elim (by decide) (fun z2 => absurd z2.1 (by decide)))
          · have hk : tkS b L p = nI 4 := by
              rw [hS]; unfold srV; rw [if_neg f, if_neg f2, if_neg g]
            rw [M_fails_0 (st := q) (by rw [up_k (by decide), up_k (by decide)]; exact X2.b) (by rw [up_k (by decide), up_k (by decide)]; exact e3)]
            refine wsb (ws ⟨oo.tr ((offK.u (by decide)).tr (offK.u (by decide))), fun w => absurd (Or.inl hk) w, fun _ => ⟨?_, ?_⟩⟩)
            · rw [up_k (by decide), up_eq]; decide
            · rw [up_eq, hs]
        · have hk : tkS b L p = nI 2 := by rw [hS]; exact (srV_2 _).mpr f2
          have hE : tkE b L p = rnV b (nI 2) (n + 1) q := by unfold tkE; rw [hk, if_pos (Or.inr rfl), hs, show L - q = n + 1 by omega]
          refine wc (R_140 (st := q) (n + 1) q FU T (nI 0) X2 B2 e3 e5 (by omega) (by omega) (by show n + 1 < 100000; omega)) (fun t' h => ⟨o2.tr h.1, fun nb => ?_, fun hb => ?_⟩)
          · have hle : rnV b (nI 2) (n + 1) q ≤ q + 2 := by
              rw [← hE]
              refine Nat.le_of_not_lt (fun w => nb (Or.inr ⟨hk, ?_⟩))
              rw [hs]; exact w
            obtain ⟨z1, z2, z3, z4⟩ := h.2.2.1 hle
            refine ⟨z1, ?_, ?_, ?_, fun _ => ?_⟩
            · rw [hs]; exact h.2.1
            · rw [hE]; exact z2
            · rw [hk]; exact z3
            · unfold vlV
              rw [hE, hs]; exact z4
          · have hlt : q + 2 < rnV b (nI 2) (n + 1) q := by
              rcases hb with w | ⟨_, w⟩
              · rw [hk] at w; exact absurd w (by decide)
              · rw [← hE]; rw [hs] at w; exact w
            rw [hs]; exact h.2.2.2 hlt
        · have hk : tkS b L p = nI 1 := by rw [hS]; exact (srV_1 _).mpr f
          have hE : tkE b L p = rnV b (nI 1) (n + 1) q := by unfold tkE; rw [hk, if_pos (Or.inl rfl), hs, show L - q = n + 1 by omega]
          rw [R_84 (b := b) (n + 1) q FU T X2 B2 (by omega) (by show n + 1 < 100000; omega)]
          refine ws ⟨o2.tr ((offK.u (by decide)).tr (offK.u (by decide))), fun _ => ⟨?_, ?_, ?_, ?_, fun w => absurd (hk.symm.trans w) (by decide)⟩, fun w => ?_⟩
          · rw [up_k (by decide), up_k (by decide)]; exact X2.b
          · rw [up_k (by decide), up_k (by decide), hs]; exact e3
          · rw [up_k (by decide), up_eq, hE]
          · rw [up_eq, hk]
          · unfold badT at w
            rw [hk] at w
            exact absurd w (fun z => z.elim (by decide) (fun z2 => absurd z2.1 (by decide)))
    · obtain rfl : n = 0 := by omega
      have hq : q = L := by omega
      rw [skV] at hs
      rw [bt_e (by omega), if_neg (by decide)]
      refine wsb ?_
      have X1 : TX (up t 10 13 (nI q)) L q 0 rr := X.u (by decide)
      rw [X1.p, byteAt_eq X1 (by omega), bt_up, bt_e (by omega)]
      refine wsb (wsb ?_)
      rw [if_pos rfl]
      have hk : tkS b L p = nI 0 := by unfold tkS; rw [if_neg (by omega)]
      have hE : tkE b L p = q := by unfold tkE; rw [hk, if_neg (by decide), if_neg (by decide), hs]
      refine wsb (ws ⟨((offK.u (by decide)).tr (offK.u (by decide))).tr (offK.u (by decide)), fun _ => ⟨?_, ?_, ?_, ?_, fun w => absurd (hk.symm.trans w) (by decide)⟩, fun w => ?_⟩)
      · rw [up_k (by decide), up_k (by decide), up_k (by decide)]; exact X.b
      · rw [up_k (by decide), up_k (by decide), up_eq, hs]
      · rw [up_k (by decide), up_k (by decide), up_k (by decide), hE]; exact X.p
      · rw [up_eq, hk]
      · unfold badT at w
        rw [hk] at w
        exact absurd w (fun z => z.elim (by decide) (fun z2 => absurd z2.1 (by decide)))
theorem R_step (X : TX t L p 0 rr) (B : TB b L t) : wp (M_step t) (RS b L p t) := by
  have h2 := X.l2
  have h3 := X.p2
  unfold M_step
  rw [X.b, if_neg (by decide)]
  exact R_8 (L - p) p FU t X B rfl (by omega) (by show L - p < 100000; omega)
theorem R_step1 {q bb : Nat} (X : TX t L q bb rr) (h : ¬ t 10 10 = 0) : M_step t = some t := by
  have h2 := X.b2
  unfold M_step
  rw [X.b] at h ⊢
  have hb : 0 < bb := by
    refine Nat.pos_of_ne_zero (fun w => h ?_)
    rw [w]; rfl
  rw [if_pos]
  show nI 0 < nI bb
  exact (nI_ltI (by decide) (by omega)).mpr hb
end STEP
end Q71
section Q72
/-! where both stand in the text -/
theorem wan {α : Type} {o : Option α} {P Q : α → Prop} (h : wp o P) (k : wp o Q) : wp o (fun a => P a ∧ Q a) := by
  obtain ⟨a, e, p⟩ := h
  obtain ⟨a', e', q⟩ := k
  rw [e] at e'
  cases e'
  exact ⟨a, e, p, q⟩
def BS (b : Nat → Int32) (L : Nat) (s0 s t : sg) : Prop := TQ s0 L s ∧ (∀ i, i < L → s 28 i = b i) ∧ (∃ q bb rr, TX t L q bb rr) ∧ TB b L t
def XC (b : Nat → Int32) (L : Nat) (s t : sg) : Prop := (s 27 3 = 0 ∧ ∃ p, p ≤ L ∧ s 27 8 = nI p ∧ ¬ badT b L p ∧ CR b L p t) ∨ (¬ t 10 10 = 0 ∧ ((s 27 3 = 0 ∧ ∃ p, p ≤ L ∧ s 27 8 = nI p ∧ badT b L p ∧ t 10 11 = nI (stV b L p)) ∨ (¬ s 27 3 = 0 ∧ s 27 4 = t 10 11)))
def XA (b : Nat → Int32) (L : Nat) (s t : sg) : Prop := (s 27 3 = 0 ∧ ∃ p, p ≤ L ∧ ¬ badT b L p ∧ CR b L p t ∧ s 27 6 = tkS b L p ∧ s 27 7 = nI (stV b L p) ∧ s 27 8 = nI (tkE b L p)) ∨ (¬ s 27 3 = 0 ∧ ¬ t 10 10 = 0 ∧ s 27 4 = t 10 11)
def FM (t t' : sg) : Prop := ¬ t 10 10 = 0 → t' 10 10 = t 10 10 ∧ t' 10 11 = t 10 11
theorem FM.rf {t : sg} : FM t t := fun _ => ⟨rfl, rfl⟩
theorem FM.tr {t t' t'' : sg} (h1 : FM t t') (h2 : FM t' t'') : FM t t'' := fun h => by
  obtain ⟨a, c⟩ := h1 h
  obtain ⟨a2, c2⟩ := h2 (by rw [a]; exact h)
  exact ⟨a2.trans a, c2.trans c⟩
section CURSOR
variable {s t s0 : sg} {b : Nat → Int32} {L p rr : Nat} {x x1 x2 x3 v : Int32}
theorem BS.l (B : BS b L s0 s t) : L ≤ 160 := B.1.1.2.1
theorem BS.eL (B : BS b L s0 s t) : s 27 1 = nI L := B.1.1.1
theorem BS.c {s' : sg} (B : BS b L s0 s t) (k : keepC s s') (C : CU s' L) : BS b L s0 s' t := ⟨B.1.c k C, fun i hi => (k 28 i (by omega)).trans (B.2.1 i hi), B.2.2⟩
theorem BS.f {s' : sg} (B : BS b L s0 s t) (k : keepF s s') : BS b L s0 s' t := ⟨B.1.f k, fun i hi => (k 28 i (by omega)).trans (B.2.1 i hi), B.2.2⟩
theorem BS.tt {t' : sg} (B : BS b L s0 s t) (k : offK t t') (X : ∃ q bb rr, TX t' L q bb rr) : BS b L s0 s t' := ⟨B.1, B.2.1, X, B.2.2.2.k k⟩
theorem XA.fl (h : ¬ t 10 10 = 0) (X : XA b L s t) : ¬ s 27 3 = 0 ∧ s 27 4 = t 10 11 := by
  rcases X with ⟨_, p, _, _, C, _⟩ | ⟨h1, _, h3⟩
  · exact absurd C.1 h
  · exact ⟨h1, h3⟩
/-- the class reads its next token; the reference has it -/
theorem K_tokA (B : BS b L s0 s t) (X : XC b L s t) : wp (T_nextToken s) (fun s' => keepC s s' ∧ BS b L s0 s' t ∧ XA b L s' t) := by
  obtain ⟨p', e8', hp'⟩ := B.1.1.2.2.2.bh
  refine wc (wan (K_next (b := b) B.l B.eL B.2.1 e8' hp') B.1.tok) (fun s' h => ⟨h.1.1, B.c h.1.1 h.2.1.2.2.2, ?_⟩)
  obtain ⟨⟨_, e7, e8, fk, good, bad⟩, _⟩ := h
  have same : ∀ p, p ≤ L → s 27 8 = nI p → p = p' := fun p hp e => by
    have h1 := B.l
    rw [e8', nI_eq (by omega) (by omega)] at e
    exact e.symm
  rcases X with ⟨h3, p, hp, e, nb, C⟩ | ⟨h1, ⟨h3, p, hp, e, nb, z⟩ | ⟨h3, h4⟩⟩
  · obtain rfl := same p hp e
    exact Or.inl ⟨(good nb).2 h3, p, hp, nb, C, (good nb).1, e7, e8⟩
  · obtain rfl := same p hp e
    exact Or.inr ⟨(bad nb h3).1, h1, (bad nb h3).2.trans z.symm⟩
  · obtain ⟨f1, f2⟩ := fk h3
    exact Or.inr ⟨by rw [f1]; exact h3, h1, f2.trans h4⟩
theorem TX.at {q bb : Nat} (X : TX t L q bb rr) (hp : p ≤ L) (e : t 10 12 = nI p) (e0 : t 10 10 = nI 0) : TX t L p 0 rr := by
  have h1 := X.l2
  have h2 := X.p2
  have h3 := X.b2
  have e1 : q = p := by
    have h := X.p
    rw [e, nI_eq (by omega) (by omega)] at h
    exact h.symm
  have e2 : bb = 0 := by
    have h := X.b
    rw [e0, nI_eq (by omega) (by omega)] at h
    exact h.symm
  subst e1
  subst e2
  exact X
/-- the reference steps on -/
theorem R_stepC (B : BS b L s0 s t) (X : XA b L s t) : wp (M_step t) (fun t' => offK t t' ∧ BS b L s0 s t' ∧ XC b L s t' ∧ FM t t' ∧ (t' 10 10 = nI 0 → t 10 10 = nI 0)) := by
  obtain ⟨q, bb, rr, T⟩ := B.2.2.1
  rcases X with ⟨h3, p, hp, nb, C, e6, e7, e8⟩ | ⟨h3, h1, h4⟩
  · have hE := tkE_le (b := b) hp
    have T' : TX t L (tkE b L p) 0 rr := T.at hE.2 C.2.2.1 C.1
    refine wc (wan (R_step T' B.2.2.2) (V_step T')) (fun t' h => ?_)
    obtain ⟨⟨o, good, bad⟩, q', b', T2, _⟩ := h
    refine ⟨o, B.tt o ⟨q', b', rr, T2⟩, ?_, fun w => absurd C.1 w, fun _ => C.1⟩
    by_cases c : badT b L (tkE b L p)
    · exact Or.inr ⟨(bad c).1, Or.inl ⟨h3, _, hE.2, e8, c, (bad c).2⟩⟩
    · exact Or.inl ⟨h3, _, hE.2, e8, c, good c⟩
  · rw [R_step1 T h1]
    exact ws ⟨offK.rf, B, Or.inr ⟨h1, Or.inr ⟨h3, h4⟩⟩, FM.rf, fun w => absurd w h1⟩
def PN (b : Nat → Int32) (L : Nat) (s0 : sg) (M : Nat) (s t : sg) (a c : Int32 × sg) : Prop := keepC s a.2 ∧ offK t c.2 ∧ BS b L s0 a.2 c.2 ∧ XC b L a.2 c.2 ∧ FM t c.2 ∧ (∃ k, k ≤ M ∧ a.1 = nI k) ∧ (∃ k, k ≤ M ∧ c.1 = nI k) ∧ ((a.2 27 3 = 0 ∧ t 10 10 = nI 0 ∧ t 10 14 = nI 2 ∧ a.1 = c.1 ∧ t 10 15 = a.1 ∧ a.2 27 7 = t 10 13) ∨ (¬ a.2 27 3 = 0 ∧ ¬ c.2 10 10 = 0 ∧ (t 10 10 = nI 0 → t 10 14 = nI 2 → ∃ k, M < k ∧ k ≤ 99 ∧ t 10 15 = nI k)))
theorem M_num_f {M q bb : Nat} (X : TX t L q bb rr) (h : ¬ t 10 10 = 0) : M_number (nI 0) (nI M) t = some (nI 0, t) := by
  unfold M_number M_number_20 M_number_47 M_number_62
  rw [if_neg h, if_neg h, if_neg h, R_step1 X h]; rfl
theorem num20_f (h : ¬ t 10 10 = 0) : M_number_20 x1 x2 t = M_number_47 x1 t := by
  unfold M_number_20
  rw [if_neg h]
/-- numbers, told to both -/
theorem K_num {M : Nat} (hM : M < 1000) (B : BS b L s0 s t) (X : XC b L s t) : w2 (T_nextNumber (nI M) s) (M_number (nI 0) (nI M) t) (PN b L s0 M s t) := by
  obtain ⟨q, bb, rr, T⟩ := B.2.2.1
  unfold T_nextNumber
  refine w2bl (K_tokA B X) (fun s1 h1 => ?_)
  obtain ⟨k1, B1, X1⟩ := h1
  have wv := W_tokenValue B1.l B1.1.1.2.2.2
  have h43 : ∀ (y : Int32) (s2 : sg), ¬ s2 27 3 = 0 → T_nextNumber_43 y s2 = some (nI 0, s2) := fun y s2 h => by unfold T_nextNumber_43; rw [if_neg h]
  rcases X1 with ⟨h3, p, hp, nb, C, e6, e7, e8⟩ | ⟨h3, h1, h4⟩
  · have failC : ∀ (c : Nat) (y : Int32), 0 < c → c ≤ 6 → (t 10 14 = nI 2 → ∃ k, M < k ∧ k ≤ 99 ∧ t 10 15 = nI k) → M_number (nI 0) (nI M) t = some (nI 0, up (up t 10 10 (nI c)) 10 11 (nI (stV b L p))) → w2 ((T_fail (nI c) (s1 27 7) s1).bind fun s2 => T_nextNumber_43 y s2) (M_number (nI 0) (nI M) t) (PN b L s0 M s t) := fun c y hc hc6 hval em => by
      rw [em]
      refine w2bl (K_fail hc (by omega)) (fun s2 g => ?_)
      rw [h43 y s2 g.2.1]
      have o : offK t (up (up t 10 10 (nI c)) 10 11 (nI (stV b L p))) := (offK.u (by decide)).tr (offK.u (by decide))
      have T2 : TX (up (up t 10 10 (nI c)) 10 11 (nI (stV b L p))) L q c rr := (T.u10 hc6).u (by decide)
      have f1 : ¬ (up (up t 10 10 (nI c)) 10 11 (nI (stV b L p))) 10 10 = 0 := by rw [up_k (by decide), up_eq]; exact nI_ne0 hc (by omega)
      have f2 : s2 27 4 = (up (up t 10 10 (nI c)) 10 11 (nI (stV b L p))) 10 11 := by rw [up_eq, g.2.2.2 h3]; exact e7
      exact w2s ⟨k1.tr g.1.c, o, (B1.f g.1).tt o ⟨_, _, _, T2⟩, Or.inr ⟨f1, Or.inr ⟨g.2.1, f2⟩⟩, fun w => absurd C.1 w, ⟨0, by omega, rfl⟩, ⟨0, by omega, rfl⟩, Or.inr ⟨g.2.1, f1, fun _ => hval⟩⟩
    have stepF : ∀ c : Nat, 0 < c → c ≤ 6 → M_step (up (up t 10 10 (nI c)) 10 11 (nI (stV b L p))) = some (up (up t 10 10 (nI c)) 10 11 (nI (stV b L p))) := fun c hc hc6 =>
      R_step1 (((T.u10 hc6).u (by decide)) : TX _ L q c rr) (by rw [up_k (by decide), up_eq]; exact nI_ne0 hc (by omega))
    have nz : ∀ c : Nat, 0 < c → c ≤ 6 → ¬ (up (up t 10 10 (nI c)) 10 11 (nI (stV b L p))) 10 10 = 0 := fun c hc hc6 => by rw [up_k (by decide), up_eq]; exact nI_ne0 hc (by omega)
    by_cases c2 : tkS b L p = nI 2
    · rw [K_value B1.l B1.2.1 hp (e6.trans c2) e7 e8] at wv ⊢
      obtain ⟨_, ew, w, hw, evw⟩ := wv
      cases ew
      refine w2sl ?_
      rw [e6, if_pos c2]
      have e15 : t 10 15 = nI w := (C.2.2.2.2 c2).trans evw
      have e14 : t 10 14 = nI 2 := C.2.2.2.1.trans c2
      rw [evw]
      by_cases cm : M < w
      · rw [if_pos ((nI_ltI (by omega) (by omega)).mpr cm)]
        refine failC 3 _ (by decide) (by decide) (fun _ => ⟨w, cm, hw, e15⟩) ?_
        unfold M_number M_number_20
        rw [C.1, if_pos (by decide), e14, if_pos rfl, if_pos (by decide), e15, inP (lo := nI 0) (hi := nI M) rfl rfl, if_neg (fun z => z.2 ((nI_ltI (by omega) (by omega)).mpr cm))]
        show ((M_fails (nI 3) t).bind fun s1 => M_number_47 (nI 0) s1) = _
        rw [M_fails_0 C.1 C.2.1]
        show M_number_47 (nI 0) (up (up t 10 10 (nI 3)) 10 11 (nI (stV b L p))) = _
        unfold M_number_47 M_number_62
        rw [if_neg (nz 3 (by decide) (by decide)), stepF 3 (by decide) (by decide)]; rfl
      · rw [if_neg (fun z => cm ((nI_ltI (by omega) (by omega)).mp z))]
        have e43 : T_nextNumber_43 (nI w) s1 = some (nI w, s1) := by unfold T_nextNumber_43; rw [if_pos h3]
        rw [e43]
        have em : M_number (nI 0) (nI M) t = (M_step t).bind fun s1 => some (nI w, s1) := by
          unfold M_number M_number_20 M_number_47 M_number_62
          rw [C.1, if_pos (by decide), e14, if_pos rfl, if_pos (by decide), e15, inP (lo := nI 0) (hi := nI M) rfl rfl, if_pos ⟨nI_pos (by omega), fun z => cm ((nI_ltI (by omega) (by omega)).mp z)⟩]
          rfl
        rw [em]
        have XA1 : XA b L s1 t := Or.inl ⟨h3, p, hp, nb, C, e6, e7, e8⟩
        refine w2br (R_stepC B1 XA1) (fun t' g => ?_)
        exact w2s ⟨k1, g.1, g.2.1, g.2.2.1, g.2.2.2.1, ⟨w, by omega, rfl⟩, ⟨w, by omega, rfl⟩, Or.inl ⟨h3, C.1, e14, rfl, e15, e7.trans C.2.1.symm⟩⟩
    · refine w2bl wv (fun y _ => ?_)
      rw [e6, if_neg c2]
      refine failC 2 _ (by decide) (by decide) (fun z => absurd (C.2.2.2.1.symm.trans z) c2) ?_
      unfold M_number
      rw [C.1, if_pos (by decide), C.2.2.2.1, if_neg c2, M_fails_0 C.1 C.2.1]
      show M_number_20 (nI 0) (nI M) (up (up t 10 10 (nI 2)) 10 11 (nI (stV b L p))) = _
      rw [num20_f (nz 2 (by decide) (by decide))]
      unfold M_number_47 M_number_62
      rw [if_neg (nz 2 (by decide) (by decide)), stepF 2 (by decide) (by decide)]; rfl
  · rw [M_num_f T h1]
    refine w2bl wv (fun y _ => ?_)
    have fin : ∀ s2 : sg, keepF s1 s2 → FK s1 s2 → w2 (T_nextNumber_43 y s2) (some (nI 0, t)) (PN b L s0 M s t) := fun s2 k2 fk => by
      obtain ⟨g1, g2⟩ := fk h3
      have hn : ¬ s2 27 3 = 0 := by rw [g1]; exact h3
      rw [h43 y s2 hn]
      exact w2s ⟨k1.tr k2.c, offK.rf, B1.f k2, Or.inr ⟨h1, Or.inr ⟨hn, g2.trans h4⟩⟩, FM.rf, ⟨0, by omega, rfl⟩, ⟨0, by omega, rfl⟩, Or.inr ⟨hn, h1, fun w => absurd w h1⟩⟩
    refine w2il (fun _ => w2il (fun _ => ?_) (fun _ => fin s1 keepF.rf FK.rf)) (fun _ => ?_)
    · exact w2bl (K_fail (by decide) (by decide)) (fun s2 g => fin s2 g.1 g.2.2.1)
    · exact w2bl (K_fail (by decide) (by decide)) (fun s2 g => fin s2 g.1 g.2.2.1)
/-- the end of a line -/
def refFin (t : sg) : Option sg := if t 10 10 = 0 then (if t 10 14 = nI 3 then M_readLine_119 t else (M_fails (nI 2) t).bind fun s4 => M_readLine_119 s4) else M_readLine_119 t
def PF (b : Nat → Int32) (L : Nat) (s0 s t s' t' : sg) : Prop := keepC s s' ∧ offK t t' ∧ BS b L s0 s' t' ∧ XC b L s' t' ∧ FM t t' ∧ (t' 10 10 = nI 0 → t 10 10 = nI 0)
theorem K_finA (B : BS b L s0 s t) (X : XA b L s t) : w2 (T_tellOut_74 s) (refFin t) (PF b L s0 s t) := by
  obtain ⟨q, bb, rr, T⟩ := B.2.2.1
  unfold T_tellOut_74 refFin M_readLine_119
  rcases X with ⟨h3, p, hp, nb, C, e6, e7, e8⟩ | ⟨h3, h1, h4⟩
  · rw [C.1, if_pos (show nI 0 = 0 from rfl), e6, C.2.2.2.1]
    refine w2i (fun c => ?_) (fun c => ?_)
    · refine w2br (R_stepC B (Or.inl ⟨h3, p, hp, nb, C, e6, e7, e8⟩)) (fun t' g => w2s ⟨keepC.rf, g⟩)
    · rw [M_fails_0 C.1 C.2.1]
      refine w2bl (K_fail (by decide) (by decide)) (fun s2 g => w2sr ?_)
      have o : offK t (up (up t 10 10 (nI 2)) 10 11 (nI (stV b L p))) := (offK.u (by decide)).tr (offK.u (by decide))
      have T2 : TX (up (up t 10 10 (nI 2)) 10 11 (nI (stV b L p))) L q 2 rr := (T.u10 (by decide)).u (by decide)
      have f1 : ¬ (up (up t 10 10 (nI 2)) 10 11 (nI (stV b L p))) 10 10 = 0 := by rw [up_k (by decide), up_eq]; decide
      rw [R_step1 T2 f1]
      exact w2sr (w2s ⟨g.1.c, o, (B.f g.1).tt o ⟨_, _, _, T2⟩, Or.inr ⟨f1, Or.inr ⟨g.2.1, by rw [up_eq, g.2.2.2 h3]; exact e7⟩⟩, fun w => absurd C.1 w, fun _ => C.1⟩)
  · rw [if_neg h1, R_step1 T h1]
    refine w2sr (w2il (fun _ => w2s ⟨keepC.rf, offK.rf, B, Or.inr ⟨h1, Or.inr ⟨h3, h4⟩⟩, FM.rf, fun w => absurd w h1⟩) (fun _ => ?_))
    refine w2bl (K_fail (by decide) (by decide)) (fun s2 g => ?_)
    obtain ⟨g1, g2⟩ := g.2.2.1 h3
    exact w2s ⟨g.1.c, offK.rf, B.f g.1, Or.inr ⟨h1, Or.inr ⟨g.2.1, g2.trans h4⟩⟩, FM.rf, fun w => absurd w h1⟩
theorem K_fin (B : BS b L s0 s t) (X : XC b L s t) : w2 (T_endLine s) (refFin t) (PF b L s0 s t) := by
  unfold T_endLine
  refine w2bl (K_tokA B X) (fun s1 h1 => ?_)
  exact (K_finA h1.2.1 h1.2.2).c (fun a c g => ⟨h1.1.tr g.1, g.2⟩)
end CURSOR
end Q72
section Q73
/-! names of lines, by both -/
def lnW (w : Nat) : Nat := enL.getD (w + 1) 0 - enL.getD w 0
def leW (w i : Nat) : Int32 := nI (leL.getD (enL.getD w 0 + i) 0)
def meq (f g : Nat → Int32) : Nat → Nat → Bool
  | 0, _ => true
  | n + 1, i => if f i = g i then meq f g n (i + 1) else false
def nmW (b : Nat → Int32) (st e w : Nat) : Bool := decide (e - st = lnW w) && meq (fun i => b (st + i)) (leW w) (lnW w) 0
def fnW (b : Nat → Int32) (st e : Nat) : Nat → Nat → Nat
  | 0, w => w
  | n + 1, w => if nmW b st e w = true then w else fnW b st e n (w + 1)
def clC (w : Nat) : Int32 := if w < 4 then nI w else nI (w + 6)
theorem ln_ro : ∀ w : Nat, w < 7 → (roS (3 + w)).length = lnW w ∧ lnW w ≤ 5 ∧ enL.getD w 0 ≤ enL.getD (w + 1) 0 ∧ enL.getD (w + 1) 0 ≤ 29 := by decide +kernel
theorem le_ro : ∀ w : Nat, w < 7 → ∀ i : Nat, i < 5 → i < lnW w → (roS (3 + w)).getD i 0 = leW w i := by decide +kernel
section NAMES
variable {s t s0 : sg} {b : Nat → Int32} {L p rr st e : Nat} {x x1 x2 x3 v : Int32}
theorem K_20 {w : Nat} (hw : w < 7) (hL : L ≤ 160) (hb : ∀ i, i < L → s 28 i = b i) (e7 : s 27 7 = nI st) (hl : st + lnW w ≤ L) : ∀ (n i fu : Nat), i + n = lnW w → n < fu → T_isNamed_20 (3 + w) s fu (nI i) = some (if meq (fun i => b (st + i)) (leW w) n i = true then nI 1 else nI 0)
  | n, i, 0, hr, hf => absurd hf (by omega)
  | n, i, fu + 1, hr, hf => by
    obtain ⟨l1, l2, _, _⟩ := ln_ro w hw
    rw [T_isNamed_20, l1]
    by_cases c : i < lnW w
    · obtain ⟨n, rfl⟩ : ∃ k, n = k + 1 := ⟨n - 1, by omega⟩
      rw [if_pos ((nI_ltI (by omega) (by omega)).mpr c), e7, nI_add, midx_nI (by omega) (by decide), midx_nI (by omega) (by omega)]
      show (if s 28 (st + i) = (roS (3 + w)).getD i 0 then T_isNamed_20 (3 + w) s fu (nI i + nI 1) else some (nI 0)) = _
      rw [hb _ (by omega), le_ro w hw i (by omega) c, nI_add, meq]
      by_cases d : b (st + i) = leW w i
      · rw [if_pos d, if_pos d]; exact K_20 hw hL hb e7 hl n (i + 1) fu (by omega) (by omega)
      · rw [if_neg d, if_neg d]; rfl
    · obtain rfl : n = 0 := by omega
      rw [if_neg (fun z => c ((nI_ltI (by omega) (by omega)).mp z))]; rfl
theorem K_named {w : Nat} (hw : w < 7) (hL : L ≤ 160) (hb : ∀ i, i < L → s 28 i = b i) (e7 : s 27 7 = nI st) (e8 : s 27 8 = nI e) (h1 : st ≤ e) (h2 : e ≤ L) : T_isNamed (3 + w) s = some (if nmW b st e w = true then nI 1 else nI 0) := by
  obtain ⟨l1, l2, _, _⟩ := ln_ro w hw
  unfold T_isNamed nmW
  rw [l1, e7, e8, sub_nI h1]
  by_cases c : e - st = lnW w
  · rw [if_pos (by rw [c]), K_20 hw hL hb e7 (by omega) (lnW w) 0 FU (by omega) (by show lnW w < 100000; omega), decide_eq_true c, Bool.true_and]
  · rw [if_neg (i32_ne c (by omega) (by omega)), decide_eq_false c, Bool.false_and]; rfl
theorem K_lineByName (hL : L ≤ 160) (hb : ∀ i, i < L → s 28 i = b i) (e7 : s 27 7 = nI st) (e8 : s 27 8 = nI e) (h1 : st ≤ e) (h2 : e ≤ L) : T_lineByName s = some (clC (fnW b st e 7 0)) := by
  have n0 : T_isNamed 3 s = _ := K_named (w := 0) (by decide) hL hb e7 e8 h1 h2
  have n1 : T_isNamed 4 s = _ := K_named (w := 1) (by decide) hL hb e7 e8 h1 h2
  have n2 : T_isNamed 5 s = _ := K_named (w := 2) (by decide) hL hb e7 e8 h1 h2
  have n3 : T_isNamed 6 s = _ := K_named (w := 3) (by decide) hL hb e7 e8 h1 h2
  have n4 : T_isNamed 7 s = _ := K_named (w := 4) (by decide) hL hb e7 e8 h1 h2
  have n5 : T_isNamed 8 s = _ := K_named (w := 5) (by decide) hL hb e7 e8 h1 h2
  have n6 : T_isNamed 9 s = _ := K_named (w := 6) (by decide) hL hb e7 e8 h1 h2
  unfold T_lineByName
  rw [n0, n1, n2, n3, n4, n5, n6]
  rw [fnW]
  by_cases c0 : nmW b st e 0 = true
  · rw [if_pos c0, if_pos c0]; rfl
  rw [if_neg c0, if_neg c0, fnW]
  by_cases c1 : nmW b st e 1 = true
  · rw [if_pos c1, if_pos c1]; rfl
  rw [if_neg c1, if_neg c1, fnW]
  by_cases c2 : nmW b st e 2 = true
  · rw [if_pos c2, if_pos c2]; rfl
  rw [if_neg c2, if_neg c2, fnW]
  by_cases c3 : nmW b st e 3 = true
  · rw [if_pos c3, if_pos c3]; rfl
  rw [if_neg c3, if_neg c3, fnW]
  by_cases c4 : nmW b st e 4 = true
  · rw [if_pos c4, if_pos c4]; rfl
  rw [if_neg c4, if_neg c4, fnW]
  by_cases c5 : nmW b st e 5 = true
  · rw [if_pos c5, if_pos c5]; rfl
  rw [if_neg c5, if_neg c5, fnW]
  by_cases c6 : nmW b st e 6 = true
  · rw [if_pos c6, if_pos c6]; rfl
  rw [if_neg c6, if_neg c6]; rfl
theorem R_51z {k2 : Int32 → Option Int32} {fu : Nat} : M_nameHere_51 k2 x1 t (fu + 1) (nI 0) x3 = k2 (x1 + nI 1) := by
  rw [M_nameHere_51, if_pos (by decide)]
  unfold M_nameHere_106
  rw [if_pos (by decide)]
theorem R_51 {k2 : Int32 → Option Int32} {w bb : Nat} (hw : w < 7) (X : TX t L e bb rr) (B : TB b L t) (A : LT t) (e3 : t 10 13 = nI st) (h1 : st ≤ e) (hl : e - st = lnW w) : ∀ (m i fu : Nat), i + m = e - st → m + 1 < fu → M_nameHere_51 k2 (nI w) t fu (nI 1) (nI i) = if meq (fun i => b (st + i)) (leW w) m i = true then some (nI w) else k2 (nI w + nI 1)
  | m, i, 0, hr, hf => absurd hf (by omega)
  | m, i, 1, hr, hf => absurd hf (by omega)
  | m, i, fu + 2, hr, hf => by
    have h2 := X.l2
    have hp := X.p2
    obtain ⟨_, l2, l3, l4⟩ := ln_ro w hw
    rw [M_nameHere_51, if_neg (by decide), X.p, e3, pk_sub h1]
    by_cases c : i < e - st
    · obtain ⟨m, rfl⟩ : ∃ k, m = k + 1 := ⟨m - 1, by omega⟩
      have hx : enL.getD w 0 + i < 29 := by unfold lnW at hl; omega
      rw [if_pos ((nI_ltI (by omega) (by omega)).mpr c), nI_add, byteAt_eq X (by omega), bt_b B (by omega)]
      show ((midx (nI w) 8).bind fun j1 => (midx ((t 14 j1) + nI i) 29).bind fun j2 => if b (st + i) = t 15 j2 then M_nameHere_51 k2 (nI w) t (fu + 1) (nI 1) (nI i + nI 1) else M_nameHere_51 k2 (nI w) t (fu + 1) (nI 0) (nI i + nI 1)) = _
      rw [midx_nI (by omega) (by decide)]
      show ((midx ((t 14 w) + nI i) 29).bind fun j2 => if b (st + i) = t 15 j2 then M_nameHere_51 k2 (nI w) t (fu + 1) (nI 1) (nI i + nI 1) else M_nameHere_51 k2 (nI w) t (fu + 1) (nI 0) (nI i + nI 1)) = _
      rw [A.1 w (by omega), nI_add, midx_nI hx (by decide)]
      show (if b (st + i) = t 15 (enL.getD w 0 + i) then M_nameHere_51 k2 (nI w) t (fu + 1) (nI 1) (nI i + nI 1) else M_nameHere_51 k2 (nI w) t (fu + 1) (nI 0) (nI i + nI 1)) = _
      rw [A.2 _ hx, nI_add, meq]
      by_cases d : b (st + i) = leW w i
      · rw [if_pos (show b (st + i) = nI (leL.getD (enL.getD w 0 + i) 0) from d), if_pos d]
        exact R_51 hw X B A e3 h1 hl m (i + 1) (fu + 1) (by omega) (by omega)
      · rw [if_neg (show ¬ b (st + i) = nI (leL.getD (enL.getD w 0 + i) 0) from d), if_neg d, R_51z]; rfl
    · obtain rfl : m = 0 := by omega
      rw [if_neg (fun z => c ((nI_ltI (by omega) (by omega)).mp z))]
      unfold M_nameHere_106
      rw [if_neg (by decide)]; rfl
theorem R_2 {bb : Nat} (X : TX t L e bb rr) (B : TB b L t) (A : LT t) (e3 : t 10 13 = nI st) (h1 : st ≤ e) (e14 : t 10 14 = nI 1) : ∀ (m w fu : Nat), w + m = 7 → m < fu → M_nameHere_2 t fu (nI w) = some (if fnW b st e m w = 7 then -4 else nI (fnW b st e m w))
  | m, w, 0, hr, hf => absurd hf (by omega)
  | m, w, fu + 1, hr, hf => by
    have h2 := X.l2
    have hp := X.p2
    rw [M_nameHere_2]
    by_cases c : w < 7
    · obtain ⟨m, rfl⟩ : ∃ k, m = k + 1 := ⟨m - 1, by omega⟩
      obtain ⟨_, l2, l3, l4⟩ := ln_ro w c
      rw [if_pos ((nI_ltI (by omega) (by decide)).mpr c), e14, if_pos rfl, nI_add, midx_nI (by omega) (by decide)]
      show ((midx (nI w) 8).bind fun j2 => if (t 10 12) - (t 10 13) = (t 14 (w + 1)) - (t 14 j2) then M_nameHere_51 (M_nameHere_2 t fu) (nI w) t FU (nI 1) (nI 0) else M_nameHere_51 (M_nameHere_2 t fu) (nI w) t FU (nI 0) (nI 0)) = _
      rw [midx_nI (by omega) (by decide)]
      show (if (t 10 12) - (t 10 13) = (t 14 (w + 1)) - (t 14 w) then M_nameHere_51 (M_nameHere_2 t fu) (nI w) t FU (nI 1) (nI 0) else M_nameHere_51 (M_nameHere_2 t fu) (nI w) t FU (nI 0) (nI 0)) = _
      rw [X.p, e3, pk_sub h1, A.1 (w + 1) (by omega), A.1 w (by omega), pk_sub l3]
      have next : M_nameHere_2 t fu (nI w + nI 1) = some (if fnW b st e m (w + 1) = 7 then -4 else nI (fnW b st e m (w + 1))) := by
        rw [nI_add]; exact R_2 X B A e3 h1 e14 m (w + 1) fu (by omega) (by omega)
      rw [fnW]
      by_cases d : e - st = lnW w
      · rw [if_pos (show nI (e - st) = nI (enL.getD (w + 1) 0 - enL.getD w 0) by rw [d]; rfl), R_51 c X B A e3 h1 d (e - st) 0 FU (by omega) (by show e - st + 1 < 100000; omega)]
        have en : nmW b st e w = meq (fun i => b (st + i)) (leW w) (e - st) 0 := by unfold nmW; rw [decide_eq_true d, Bool.true_and, d]
        rw [en]
        by_cases f : meq (fun i => b (st + i)) (leW w) (e - st) 0 = true
        · rw [if_pos f, if_pos f, if_neg (by omega)]
        · rw [if_neg f, if_neg f]; exact next
      · have en : ¬ nmW b st e w = true := by unfold nmW; rw [decide_eq_false d, Bool.false_and]; decide
        have z : M_nameHere_51 (M_nameHere_2 t fu) (nI w) t FU (nI 0) (nI 0) = M_nameHere_2 t fu (nI w + nI 1) := R_51z (fu := 99999)
        rw [if_neg (i32_ne (fun q => d (by unfold lnW; exact q)) (by omega) (by omega)), if_neg en, z]
        exact next
    · obtain rfl : m = 0 := by omega
      rw [if_neg (fun z => c ((nI_ltI (by omega) (by decide)).mp z)), fnW, if_pos (by omega)]
theorem fnW_le : ∀ m w : Nat, fnW b st e m w ≤ w + m
  | 0, w => Nat.le_refl _
  | m + 1, w => by
    rw [fnW]
    by_cases c : nmW b st e w = true
    · rw [if_pos c]; omega
    · rw [if_neg c]
      have := fnW_le m (w + 1)
      omega
end NAMES
end Q73
section Q74
/-! the draft of both -/
def DR (s t : sg) (R : Nat) : Prop := (s 29 0 = nI R ∧ R ≤ 6 ∧ t 10 3 = nI R) ∧ (∀ r, r < R → s 30 r = t 12 r ∧ s 31 r = t 12 (6 + r) ∧ s 32 r = t 12 (12 + r)) ∧
  (∀ r, r < 6 → (∃ k : Nat, k ≤ 4 ∧ t 12 (18 + r) = nI k ∧ s 33 r = nI k - nI 1) ∧ (∃ c : Nat, c ≤ 99 ∧ t 12 (24 + r) = nI c) ∧ (0 < t 12 (18 + r) → s 34 r = t 12 (24 + r))) ∧
  (∀ w, w < 5 → s 35 w = t 12 (36 + w) + nI 2) ∧ (∀ i, i < 8 → s 36 i = t 12 (41 + i) + nI 10) ∧ (∀ r, r < 6 → t 12 (30 + r) = nI 0) ∧ (t 12 49 = nI 0 ∧ t 12 50 = nI 0 ∧ t 12 51 = nI 0) ∧ (s 29 1 = nI 0 ∧ s 29 2 = nI 0 ∧ s 29 3 = nI 0 ∧ s 29 4 = nI 0) ∧
  (∃ m hz : Nat, m < 32 ∧ hz ≤ 6 ∧ s 27 10 = nI m ∧ t 10 4 = nI m ∧ t 10 6 = nI hz - nI 1 ∧ (∀ r, r < 6 → 0 < t 12 (18 + r) → r < hz) ∧ (∀ w, w < 5 → m / 2 ^ w % 2 = 1 → w + 1 < hz) ∧ (hz = 0 ∨ 0 < t 12 (18 + (hz - 1)) ∨ (2 ≤ hz ∧ m / 2 ^ (hz - 2) % 2 = 1))) ∧ (s 27 9 = t 10 5 ∧ (t 10 5 = nI 0 ∨ t 10 5 = nI 1))
section DRAFT
variable {s t s' t' s0 : sg} {b : Nat → Int32} {L R : Nat} {x x1 x2 x3 v v1 v2 v3 : Int32}
theorem DR.eq {R' : Nat} (D : DR s t R) (o27 : s' 27 9 = s 27 9 ∧ s' 27 10 = s 27 10) (oS : ∀ q, 29 ≤ q → q ≤ 36 → s' q = s q) (o12 : t' 12 = t 12) (o10 : ∀ k, 3 ≤ k → k ≤ 6 → t' 10 k = t 10 k) (hR : R' = R) : DR s' t' R' := by
  subst hR
  unfold DR
  rw [o27.1, o27.2, oS 29 (by decide) (by decide), oS 30 (by decide) (by decide), oS 31 (by decide) (by decide), oS 32 (by decide) (by decide), oS 33 (by decide) (by decide), oS 34 (by decide) (by decide), oS 35 (by decide) (by decide), oS 36 (by decide) (by decide), o12, o10 3 (by decide) (by decide), o10 4 (by decide) (by decide), o10 5 (by decide) (by decide), o10 6 (by decide) (by decide)]
  exact D
theorem DR.k (D : DR s t R) (k : keepC s s') (o : offK t t') : DR s' t' R :=
  D.eq ⟨k 27 9 (by omega), k 27 10 (by omega)⟩ (fun q h1 h2 => by funext i; exact k q i (by omega)) (by funext i; exact o 12 i (by omega)) (fun i h1 h2 => o 10 i (by omega)) rfl
theorem keepC.lift {q k : Nat} (h : keepC s s') : keepC (up s q k v) (up s' q k v) := fun p j hp => by
  by_cases c : p = q ∧ j = k
  · show (if p = q ∧ j = k then v else s' p j) = (if p = q ∧ j = k then v else s p j)
    rw [if_pos c, if_pos c]
  · show (if p = q ∧ j = k then v else s' p j) = (if p = q ∧ j = k then v else s p j)
    rw [if_neg c, if_neg c]; exact h p j hp
theorem offK.lift {q k : Nat} (h : offK t t') : offK (up t q k v) (up t' q k v) := fun p j hp => by
  by_cases c : p = q ∧ j = k
  · show (if p = q ∧ j = k then v else t' p j) = (if p = q ∧ j = k then v else t p j)
    rw [if_pos c, if_pos c]
  · show (if p = q ∧ j = k then v else t' p j) = (if p = q ∧ j = k then v else t p j)
    rw [if_neg c, if_neg c]; exact h p j hp
theorem DR.room (D : DR s t R) (hR : R < 6) : DR (up (up (up (up s 29 0 (nI (R + 1))) 30 R v1) 31 R v2) 32 R v3) (up (up (up (up t 12 R v1) 12 (6 + R) v2) 12 (12 + R) v3) 10 3 (nI (R + 1))) (R + 1) := by
  obtain ⟨d1, d2, d3, d4, d5, d6, d7, d8, d9, d10⟩ := D
  have oS : ∀ q, q ≠ 29 → q ≠ 30 → q ≠ 31 → q ≠ 32 → (up (up (up (up s 29 0 (nI (R + 1))) 30 R v1) 31 R v2) 32 R v3) q = s q := fun q h1 h2 h3 h4 => by rw [up_off h4, up_off h3, up_off h2, up_off h1]
  have o29 : ∀ k, k ≠ 0 → (up (up (up (up s 29 0 (nI (R + 1))) 30 R v1) 31 R v2) 32 R v3) 29 k = s 29 k := fun k hk => by rw [up_p (by decide), up_p (by decide), up_p (by decide), up_k hk]
  have o12 : ∀ k, k ≠ R → k ≠ 6 + R → k ≠ 12 + R → (up (up (up (up t 12 R v1) 12 (6 + R) v2) 12 (12 + R) v3) 10 3 (nI (R + 1))) 12 k = t 12 k := fun k h1 h2 h3 => by rw [up_p (by decide), up_k h3, up_k h2, up_k h1]
  have o10 : ∀ k, k ≠ 3 → (up (up (up (up t 12 R v1) 12 (6 + R) v2) 12 (12 + R) v3) 10 3 (nI (R + 1))) 10 k = t 10 k := fun k h => by rw [up_k h, up_p (by decide), up_p (by decide), up_p (by decide)]
  refine ⟨⟨?_, by omega, up_eq⟩, fun r hr => ?_, fun r hr => ?_, fun w hw => ?_, fun i hi => ?_, fun r hr => ?_, ?_, ?_, ?_, ?_⟩
  · rw [up_p (by decide), up_p (by decide), up_p (by decide), up_eq]
  · by_cases c : r = R
    · subst c
      refine ⟨?_, ?_, ?_⟩
      · rw [up_p (by decide), up_p (by decide), up_eq, up_p (by decide), up_k (by omega), up_k (by omega), up_eq]
      · rw [up_p (by decide), up_eq, up_p (by decide), up_k (by omega), up_eq]
      · rw [up_eq, up_p (by decide), up_eq]
    · rw [o12 _ (by omega) (by omega) (by omega), o12 _ (by omega) (by omega) (by omega), o12 _ (by omega) (by omega) (by omega)]
      have a30 : (up (up (up (up s 29 0 (nI (R + 1))) 30 R v1) 31 R v2) 32 R v3) 30 r = s 30 r := by rw [up_p (by decide), up_p (by decide), up_k c, up_p (by decide)]
      have a31 : (up (up (up (up s 29 0 (nI (R + 1))) 30 R v1) 31 R v2) 32 R v3) 31 r = s 31 r := by rw [up_p (by decide), up_k c, up_p (by decide), up_p (by decide)]
      have a32 : (up (up (up (up s 29 0 (nI (R + 1))) 30 R v1) 31 R v2) 32 R v3) 32 r = s 32 r := by rw [up_k c, up_p (by decide), up_p (by decide), up_p (by decide)]
      rw [a30, a31, a32]
      exact d2 r (by omega)
  · rw [oS 33 (by decide) (by decide) (by decide) (by decide), oS 34 (by decide) (by decide) (by decide) (by decide), o12 (18 + r) (by omega) (by omega) (by omega), o12 (24 + r) (by omega) (by omega) (by omega)]
    exact d3 r hr
  · rw [oS 35 (by decide) (by decide) (by decide) (by decide), o12 _ (by omega) (by omega) (by omega)]; exact d4 w hw
  · rw [oS 36 (by decide) (by decide) (by decide) (by decide), o12 _ (by omega) (by omega) (by omega)]; exact d5 i hi
  · rw [o12 _ (by omega) (by omega) (by omega)]; exact d6 r hr
  · rw [o12 _ (by omega) (by omega) (by omega), o12 _ (by omega) (by omega) (by omega), o12 _ (by omega) (by omega) (by omega)]; exact d7
  · rw [o29 1 (by decide), o29 2 (by decide), o29 3 (by decide), o29 4 (by decide)]; exact d8
  · obtain ⟨m, hz, m1, m2, m3, m4, m5, m6, m7, m8⟩ := d9
    refine ⟨m, hz, m1, m2, ?_, ?_, ?_, fun r hr => ?_, m7, ?_⟩
    · rw [oS 27 (by decide) (by decide) (by decide) (by decide)]; exact m3
    · rw [o10 4 (by decide)]; exact m4
    · rw [o10 6 (by decide)]; exact m5
    · rw [o12 _ (by omega) (by omega) (by omega)]; exact m6 r hr
    · rw [o12 (18 + (hz - 1)) (by omega) (by omega) (by omega)]; exact m8
  · rw [oS 27 (by decide) (by decide) (by decide) (by decide), o10 5 (by decide)]; exact d10
def mxV (x y : Int32) : Int32 := if x < y then y else x
theorem mx_nat {hz w : Nat} (h1 : hz ≤ 6) (h2 : w < 6) : mxV (nI hz - nI 1) (nI w) = nI (if hz < w + 1 then w + 1 else hz) - nI 1 := by
  unfold mxV
  have e : (nI hz - nI 1 < nI w) ↔ hz < w + 1 := by
    rw [Int32.lt_iff_toInt_lt, pk_sub_toInt (by omega) (by decide), nI_toInt (by omega)]
    omega
  by_cases c : hz < w + 1
  · rw [if_pos (e.mpr c), if_pos c, pk_sub (by omega)]; rfl
  · rw [if_neg (fun z => c (e.mp z)), if_neg c]
theorem DR.tongue {w k c : Nat} (D : DR s t R) (hw : w < 6) (hk : k ≤ 3) (hc : c ≤ 99) (hn : ¬ 0 < t 12 (18 + w)) : DR (up (up s 33 w (nI k)) 34 w (nI c)) (up (up (up t 10 6 (mxV (t 10 6) (nI w))) 12 (18 + w) (nI k + nI 1)) 12 (24 + w) (nI c)) R := by
  obtain ⟨d1, d2, d3, d4, d5, d6, d7, d8, d9, d10⟩ := D
  have oS : ∀ q, q ≠ 33 → q ≠ 34 → (up (up s 33 w (nI k)) 34 w (nI c)) q = s q := fun q h1 h2 => by rw [up_off h2, up_off h1]
  have o12 : ∀ j, j ≠ 18 + w → j ≠ 24 + w → (up (up (up t 10 6 (mxV (t 10 6) (nI w))) 12 (18 + w) (nI k + nI 1)) 12 (24 + w) (nI c)) 12 j = t 12 j := fun j h1 h2 => by rw [up_k h2, up_k h1, up_p (by decide)]
  have o10 : ∀ j, j ≠ 6 → (up (up (up t 10 6 (mxV (t 10 6) (nI w))) 12 (18 + w) (nI k + nI 1)) 12 (24 + w) (nI c)) 10 j = t 10 j := fun j h => by rw [up_p (by decide), up_p (by decide), up_k h]
  have a18 : (up (up (up t 10 6 (mxV (t 10 6) (nI w))) 12 (18 + w) (nI k + nI 1)) 12 (24 + w) (nI c)) 12 (18 + w) = nI (k + 1) := by rw [up_k (by omega), up_eq, nI_add]
  have a24 : (up (up (up t 10 6 (mxV (t 10 6) (nI w))) 12 (18 + w) (nI k + nI 1)) 12 (24 + w) (nI c)) 12 (24 + w) = nI c := up_eq
  have pos : 0 < nI (k + 1) := (nI_ltI (a := 0) (by decide) (by omega)).mpr (by omega)
  refine ⟨⟨?_, d1.2.1, ?_⟩, fun r hr => ?_, fun r hr => ?_, fun q hq => ?_, fun i hi => ?_, fun r hr => ?_, ?_, ?_, ?_, ?_⟩
  · rw [oS 29 (by decide) (by decide)]; exact d1.1
  · rw [o10 3 (by decide)]; exact d1.2.2
  · have h6 := d1.2.1
    rw [oS 30 (by decide) (by decide), oS 31 (by decide) (by decide), oS 32 (by decide) (by decide), o12 _ (by omega) (by omega), o12 _ (by omega) (by omega), o12 _ (by omega) (by omega)]
    exact d2 r hr
  · by_cases z : r = w
    · subst z
      rw [a18, a24]
      refine ⟨⟨k + 1, by omega, rfl, ?_⟩, ⟨c, hc, rfl⟩, fun _ => up_eq⟩
      rw [up_p (by decide), up_eq, pk_sub (by omega)]; rfl
    · rw [o12 (18 + r) (by omega) (by omega), o12 (24 + r) (by omega) (by omega), up_p (show 33 ≠ 34 by decide), up_k z, up_k z, up_p (show 34 ≠ 33 by decide)]
      exact d3 r hr
  · rw [oS 35 (by decide) (by decide), o12 _ (by omega) (by omega)]; exact d4 q hq
  · rw [oS 36 (by decide) (by decide), o12 _ (by omega) (by omega)]; exact d5 i hi
  · rw [o12 _ (by omega) (by omega)]; exact d6 r hr
  · rw [o12 _ (by omega) (by omega), o12 _ (by omega) (by omega), o12 _ (by omega) (by omega)]; exact d7
  · rw [oS 29 (by decide) (by decide)]; exact d8
  · obtain ⟨m, hz, m1, m2, m3, m4, m5, m6, m7, m8⟩ := d9
    refine ⟨m, if hz < w + 1 then w + 1 else hz, m1, ?_, ?_, ?_, ?_, fun r hr hp => ?_, fun q hq hb => ?_, ?_⟩
    · by_cases z : hz < w + 1
      · rw [if_pos z]; omega
      · rw [if_neg z]; exact m2
    · rw [oS 27 (by decide) (by decide)]; exact m3
    · rw [o10 4 (by decide)]; exact m4
    · rw [up_p (by decide), up_p (by decide), up_eq, m5, mx_nat m2 hw]
    · by_cases z : r = w
      · subst z
        by_cases z2 : hz < r + 1
        · rw [if_pos z2]; omega
        · rw [if_neg z2]; omega
      · rw [o12 _ (by omega) (by omega)] at hp
        have := m6 r hr hp
        by_cases z2 : hz < w + 1
        · rw [if_pos z2]; omega
        · rw [if_neg z2]; omega
    · have := m7 q hq hb
      by_cases z2 : hz < w + 1
      · rw [if_pos z2]; omega
      · rw [if_neg z2]; omega
    · by_cases z2 : hz < w + 1
      · rw [if_pos z2]
        refine Or.inr (Or.inl ?_)
        rw [show w + 1 - 1 = w by omega, a18]; exact pos
      · rw [if_neg z2]
        rcases m8 with q | q | q
        · exact Or.inl q
        · refine Or.inr (Or.inl ?_)
          by_cases z3 : hz - 1 = w
          · rw [z3, a18]; exact pos
          · rw [o12 _ (by omega) (by omega)]; exact q
        · exact Or.inr (Or.inr q)
  · rw [oS 27 (by decide) (by decide), o10 5 (by decide)]; exact d10
def orb (m w : Nat) : Nat := if m / 2 ^ w % 2 = 1 then m else m + 2 ^ w
theorem orb_i : ∀ m : Nat, m < 32 → ∀ w : Nat, w < 5 → (nI m ||| (nI 1 <<< (nI w &&& 31))) = nI (orb m w) ∧ orb m w < 32 := by decide +kernel
theorem orb_b : ∀ m : Nat, m < 32 → ∀ w : Nat, w < 5 → ∀ q : Nat, q < 5 → orb m w / 2 ^ q % 2 = if q = w then 1 else m / 2 ^ q % 2 := by decide +kernel
theorem DR.wall {w : Nat} (D : DR s t R) (hw : w < 5) : DR (up (up s 27 10 (s 27 10 ||| (nI 1 <<< (nI w &&& 31)))) 35 w v) (up (up (up t 10 6 (mxV (t 10 6) (nI (w + 1)))) 10 4 (t 10 4 ||| (nI 1 <<< (nI w &&& 31)))) 12 (36 + w) (v - nI 2)) R := by
  obtain ⟨d1, d2, d3, d4, d5, d6, d7, d8, d9, d10⟩ := D
  have oS : ∀ q, q ≠ 27 → q ≠ 35 → (up (up s 27 10 (s 27 10 ||| (nI 1 <<< (nI w &&& 31)))) 35 w v) q = s q := fun q h1 h2 => by rw [up_off h2, up_off h1]
  have o12 : ∀ j, j ≠ 36 + w → (up (up (up t 10 6 (mxV (t 10 6) (nI (w + 1)))) 10 4 (t 10 4 ||| (nI 1 <<< (nI w &&& 31)))) 12 (36 + w) (v - nI 2)) 12 j = t 12 j := fun j h2 => by rw [up_k h2, up_p (by decide), up_p (by decide)]
  have o10 : ∀ j, j ≠ 6 → j ≠ 4 → (up (up (up t 10 6 (mxV (t 10 6) (nI (w + 1)))) 10 4 (t 10 4 ||| (nI 1 <<< (nI w &&& 31)))) 12 (36 + w) (v - nI 2)) 10 j = t 10 j := fun j h h2 => by rw [up_p (by decide), up_k h2, up_k h]
  refine ⟨⟨?_, d1.2.1, ?_⟩, fun r hr => ?_, fun r hr => ?_, fun q hq => ?_, fun i hi => ?_, fun r hr => ?_, ?_, ?_, ?_, ?_⟩
  · rw [oS 29 (by decide) (by decide)]; exact d1.1
  · rw [o10 3 (by decide) (by decide)]; exact d1.2.2
  · have h6 := d1.2.1
    rw [oS 30 (by decide) (by decide), oS 31 (by decide) (by decide), oS 32 (by decide) (by decide), o12 _ (by omega), o12 _ (by omega), o12 _ (by omega)]
    exact d2 r hr
  · rw [oS 33 (by decide) (by decide), oS 34 (by decide) (by decide), o12 (18 + r) (by omega), o12 (24 + r) (by omega)]
    exact d3 r hr
  · by_cases z : q = w
    · subst z
      rw [up_eq, up_eq]; exact sub_add _ _
    · rw [up_k z, up_p (by decide), o12 _ (by omega)]; exact d4 q hq
  · rw [oS 36 (by decide) (by decide), o12 _ (by omega)]; exact d5 i hi
  · rw [o12 _ (by omega)]; exact d6 r hr
  · rw [o12 _ (by omega), o12 _ (by omega), o12 _ (by omega)]; exact d7
  · rw [oS 29 (by decide) (by decide)]; exact d8
  · obtain ⟨m, hz, m1, m2, m3, m4, m5, m6, m7, m8⟩ := d9
    obtain ⟨u1, u2⟩ := orb_i m m1 w hw
    refine ⟨orb m w, if hz < w + 1 + 1 then w + 1 + 1 else hz, u2, ?_, ?_, ?_, ?_, fun r hr hp => ?_, fun q hq hb => ?_, ?_⟩
    · by_cases z : hz < w + 1 + 1
      · rw [if_pos z]; omega
      · rw [if_neg z]; exact m2
    · rw [up_p (by decide), up_eq, m3]; exact u1
    · rw [up_p (by decide), up_eq, m4]; exact u1
    · rw [up_p (by decide), up_k (by decide), up_eq, m5, mx_nat m2 (by omega)]
    · rw [o12 _ (by omega)] at hp
      have := m6 r hr hp
      by_cases z2 : hz < w + 1 + 1
      · rw [if_pos z2]; omega
      · rw [if_neg z2]; omega
    · rw [orb_b m m1 w hw q hq] at hb
      by_cases z : q = w
      · subst z
        by_cases z2 : hz < q + 1 + 1
        · rw [if_pos z2]; omega
        · rw [if_neg z2]; omega
      · rw [if_neg z] at hb
        have := m7 q hq hb
        by_cases z2 : hz < w + 1 + 1
        · rw [if_pos z2]; omega
        · rw [if_neg z2]; omega
    · by_cases z2 : hz < w + 1 + 1
      · rw [if_pos z2]
        refine Or.inr (Or.inr ⟨by omega, ?_⟩)
        rw [show w + 1 + 1 - 2 = w by omega, orb_b m m1 w hw w hw, if_pos rfl]
      · rw [if_neg z2]
        rcases m8 with q | q | ⟨q1, q2⟩
        · exact Or.inl q
        · refine Or.inr (Or.inl ?_)
          rw [o12 _ (by omega)]; exact q
        · refine Or.inr (Or.inr ⟨q1, ?_⟩)
          rw [orb_b m m1 w hw (hz - 2) (by omega)]
          by_cases z3 : hz - 2 = w
          · rw [if_pos z3]
          · rw [if_neg z3]; exact q2
  · rw [up_p (by decide), up_k (by decide), o10 5 (by decide) (by decide)]; exact d10
theorem DR.out1 (D : DR s t R) : DR (up s 27 9 (nI 1)) (up t 10 5 (nI 1)) R := by
  obtain ⟨d1, d2, d3, d4, d5, d6, d7, d8, d9, d10⟩ := D
  have oS : ∀ q, q ≠ 27 → (up s 27 9 (nI 1)) q = s q := fun q h1 => up_off h1
  have oT : (up t 10 5 (nI 1)) 12 = t 12 := up_off (by decide)
  have o10 : ∀ j, j ≠ 5 → (up t 10 5 (nI 1)) 10 j = t 10 j := fun j h => up_k h
  unfold DR
  rw [oS 29 (by decide), oS 30 (by decide), oS 31 (by decide), oS 32 (by decide), oS 33 (by decide), oS 34 (by decide), oS 35 (by decide), oS 36 (by decide), oT, o10 3 (by decide), o10 4 (by decide), o10 6 (by decide), up_k (show 10 ≠ 9 by decide), up_eq, up_eq]
  exact ⟨d1, d2, d3, d4, d5, d6, d7, d8, d9, rfl, Or.inr rfl⟩
theorem DR.outs {i : Nat} (D : DR s t R) (hi : i < 8) : DR (up s 36 i v) (up t 12 (41 + i) (v - nI 10)) R := by
  obtain ⟨d1, d2, d3, d4, d5, d6, d7, d8, d9, d10⟩ := D
  have oS : ∀ q, q ≠ 36 → (up s 36 i v) q = s q := fun q h1 => up_off h1
  have o12 : ∀ j, j ≠ 41 + i → (up t 12 (41 + i) (v - nI 10)) 12 j = t 12 j := fun j h => up_k h
  have oT : (up t 12 (41 + i) (v - nI 10)) 10 = t 10 := up_off (by decide)
  have h6 := d1.2.1
  unfold DR
  rw [oS 27 (by decide), oS 29 (by decide), oS 30 (by decide), oS 31 (by decide), oS 32 (by decide), oS 33 (by decide), oS 34 (by decide), oS 35 (by decide), oT]
  refine ⟨d1, fun r hr => ?_, fun r hr => ?_, fun w hw => ?_, fun q hq => ?_, fun r hr => ?_, ?_, d8, ?_, d10⟩
  · rw [o12 _ (by omega), o12 _ (by omega), o12 _ (by omega)]; exact d2 r hr
  · rw [o12 _ (by omega), o12 _ (by omega)]; exact d3 r hr
  · rw [o12 _ (by omega)]; exact d4 w hw
  · by_cases z : q = i
    · subst z
      rw [up_eq, up_eq]; exact sub_add _ _
    · rw [up_k z, o12 _ (by omega)]; exact d5 q hq
  · rw [o12 _ (by omega)]; exact d6 r hr
  · rw [o12 _ (by omega), o12 _ (by omega), o12 _ (by omega)]; exact d7
  · obtain ⟨m, hz, m1, m2, m3, m4, m5, m6, m7, m8⟩ := d9
    refine ⟨m, hz, m1, m2, m3, m4, m5, fun r hr => ?_, m7, ?_⟩
    · rw [o12 _ (by omega)]; exact m6 r hr
    · rw [o12 _ (by omega)]; exact m8
end DRAFT
end Q74
section Q75
/-! lines, told to both -/
def PL (b : Nat → Int32) (L : Nat) (s0 s t s' t' : sg) : Prop := BS b L s0 s' t' ∧ XC b L s' t' ∧ s' 27 5 = s 27 5 ∧ FM t t' ∧ (t' 10 10 = nI 0 → ∃ R, DR s' t' R) ∧ offLn t t'
section LINE
variable {s t s' t' s0 : sg} {b : Nat → Int32} {L R : Nat} {x x1 x2 x3 v v1 v2 v3 : Int32}
theorem XC.k (X : XC b L s t) (h3 : s' 27 3 = s 27 3) (h4 : s' 27 4 = s 27 4) (h8 : s' 27 8 = s 27 8) (ht : ∀ k, 10 ≤ k → k ≤ 15 → t' 10 k = t 10 k) : XC b L s' t' := by
  unfold XC CR
  rw [h3, h4, h8, ht 10 (by decide) (by decide), ht 11 (by decide) (by decide), ht 12 (by decide) (by decide), ht 13 (by decide) (by decide), ht 14 (by decide) (by decide), ht 15 (by decide) (by decide)]
  exact X
theorem XC.us {q k : Nat} (X : XC b L s t) (h : q ≠ 27 ∨ (k ≠ 3 ∧ k ≠ 4 ∧ k ≠ 8)) : XC b L (up s q k v) t :=
  X.k (if_neg (by omega)) (if_neg (by omega)) (if_neg (by omega)) (fun _ _ _ => rfl)
theorem XC.ut {q k : Nat} (X : XC b L s t) (h : q ≠ 10 ∨ k < 10) : XC b L s (up t q k v) :=
  X.k rfl rfl rfl (fun i h1 h2 => if_neg (by omega))
theorem XA.us {q k : Nat} (X : XA b L s t) (h : q ≠ 27 ∨ k = 5 ∨ 9 ≤ k) : XA b L (up s q k v) t := by
  have e : ∀ i, i ≠ 5 → i < 9 → (up s q k v) 27 i = s 27 i := fun i h1 h2 => if_neg (by omega)
  unfold XA
  rw [e 3 (by decide) (by decide), e 4 (by decide) (by decide), e 6 (by decide) (by decide), e 7 (by decide) (by decide), e 8 (by decide) (by decide)]
  exact X
theorem XA.ut {q k : Nat} (X : XA b L s t) (h : q ≠ 10 ∨ k < 10) : XA b L s (up t q k v) := by
  have e : ∀ i, 10 ≤ i → (up t q k v) 10 i = t 10 i := fun i h1 => if_neg (by omega)
  unfold XA CR
  rw [e 10 (by decide), e 11 (by decide), e 12 (by decide), e 13 (by decide), e 14 (by decide), e 15 (by decide)]
  exact X
theorem BS.u3 {q k : Nat} (B : BS b L s0 s t) (hq : 30 ≤ q ∧ q ≤ 36 ∧ q ≠ 33) : BS b L s0 (up s q k v) t := ⟨B.1.u30 hq, fun i hi => (up_p (by omega)).trans (B.2.1 i hi), B.2.2⟩
theorem BS.u33 {k : Nat} (B : BS b L s0 s t) (hv : tg v) : BS b L s0 (up s 33 k v) t := ⟨B.1.u33 hv, fun i hi => (up_p (by omega)).trans (B.2.1 i hi), B.2.2⟩
theorem BS.u27 {k : Nat} (B : BS b L s0 s t) (hk : k ≠ 1 ∧ k ≠ 6 ∧ k ≠ 7 ∧ k ≠ 8) : BS b L s0 (up s 27 k v) t := ⟨B.1.u27 hk, fun i hi => (up_p (by omega)).trans (B.2.1 i hi), B.2.2⟩
theorem BS.u29 (B : BS b L s0 s t) (hR : R ≤ 6) : BS b L s0 (up s 29 0 (nI R)) t := by
  obtain ⟨⟨⟨e1, hL, ⟨R', H⟩, C⟩, o⟩, tp, X, T⟩ := B
  refine ⟨⟨⟨(up_p (by decide)).trans e1, hL, ⟨R, up_eq, hR, (up_k (by decide)).trans H.2.2.1, fun r hr => ?_⟩, C.out (by decide)⟩, fun p hp => ?_⟩, fun i hi => (up_p (by decide)).trans (tp i hi), X, T⟩
  · rw [up_p (by omega)]; exact H.2.2.2 r hr
  · rw [up_off (by omega)]; exact o p hp
theorem BS.t12 {k : Nat} (B : BS b L s0 s t) (hk : k ≠ 49) : BS b L s0 s (up t 12 k v) := by
  obtain ⟨q, bb, rr, T⟩ := B.2.2.1
  exact ⟨B.1, B.2.1, ⟨q, bb, rr, T.ur hk⟩, fun i hi => by rw [up_p (by decide)]; exact B.2.2.2 i hi⟩
theorem BS.t10 {k : Nat} (B : BS b L s0 s t) (hk : 4 ≤ k ∧ k ≤ 6) : BS b L s0 s (up t 10 k v) := by
  obtain ⟨q, bb, rr, T⟩ := B.2.2.1
  exact ⟨B.1, B.2.1, ⟨q, bb, rr, T.u (by omega)⟩, fun i hi => by rw [up_p (by decide)]; exact B.2.2.2 i hi⟩
theorem BS.t3 (B : BS b L s0 s t) (hk : R ≤ 6) : BS b L s0 s (up t 10 3 (nI R)) := by
  obtain ⟨q, bb, rr, T⟩ := B.2.2.1
  exact ⟨B.1, B.2.1, ⟨q, bb, R, T.u3 hk⟩, fun i hi => by rw [up_p (by decide)]; exact B.2.2.2 i hi⟩
theorem FM.u {q k : Nat} (h : q ≠ 10 ∨ k < 10) : FM t (up t q k v) := fun _ => ⟨if_neg (by omega), if_neg (by omega)⟩
theorem PN.live {M : Nat} {a c : Int32 × sg} (P : PN b L s0 M s t a c) (h : c.2 10 10 = nI 0) : t 10 10 = nI 0 ∧ a.1 = c.1 ∧ a.2 27 3 = 0 := by
  rcases P.2.2.2.2.2.2.2 with ⟨z1, z2, _, z4, _⟩ | ⟨_, z2, _⟩
  · exact ⟨z2, z4, z1⟩
  · exact absurd h z2
theorem obs {α : Type} (o : Option α) : (o.bind fun x => some x) = o := by cases o <;> rfl
theorem K_room (B : BS b L s0 s t) (X : XC b L s t) (hR : s 29 0 = nI R) (hR6 : R < 6) (e3 : t 10 3 = nI R) (D : t 10 10 = nI 0 → DR s t R) : w2 (T_tellRoom s) ((M_readMore (nI 4) t).bind refFin) (PL b L s0 s t) := by
  unfold T_tellRoom M_readMore
  rw [hR, if_pos ((nI_ltI (by omega) (by decide)).mpr hR6), if_pos (show nI 3 < nI 4 by decide), if_pos rfl, nI_add]
  refine w2sl ?_
  rw [Option.bind_assoc]
  refine w2b (K_num (M := 99) (by decide) (B.u29 (R := R + 1) (by omega)) (X.us (by omega))) (fun a c P1 => ?_)
  rw [Option.bind_assoc]
  refine w2l rfl (by omega) (by decide) (w2r e3 (by omega) (by decide) (w2sl ?_))
  rw [Option.bind_assoc]
  refine w2sr ?_
  rw [Option.bind_assoc]
  have B2 : BS b L s0 (up a.2 30 R a.1) (up c.2 12 R c.1) := (P1.2.2.1.u3 (by decide)).t12 (by omega)
  have X2 : XC b L (up a.2 30 R a.1) (up c.2 12 R c.1) := (P1.2.2.2.1.us (by omega)).ut (by omega)
  refine w2b (K_num (M := 9) (by decide) B2 X2) (fun a2 c2 P2 => ?_)
  have e32 : (up c.2 12 R c.1) 10 3 = nI R := by rw [up_p (by decide), P1.2.1 10 3 (by omega)]; exact e3
  rw [Option.bind_assoc, e32, nI_add]
  refine w2l rfl (by omega) (by decide) (w2r rfl (by omega) (by decide) (w2sl ?_))
  rw [Option.bind_assoc]
  refine w2sr ?_
  rw [Option.bind_assoc]
  have B3 : BS b L s0 (up a2.2 31 R a2.1) (up c2.2 12 (6 + R) c2.1) := (P2.2.2.1.u3 (by decide)).t12 (by omega)
  have X3 : XC b L (up a2.2 31 R a2.1) (up c2.2 12 (6 + R) c2.1) := (P2.2.2.2.1.us (by omega)).ut (by omega)
  refine w2b (K_num (M := 9) (by decide) B3 X3) (fun a3 c3 P3 => ?_)
  have e33 : (up c2.2 12 (6 + R) c2.1) 10 3 = nI R := by rw [up_p (by decide), P2.2.1 10 3 (by omega)]; exact e32
  rw [Option.bind_assoc, e33, nI_add]
  refine w2l rfl (by omega) (by decide) (w2r rfl (by omega) (by decide) (w2sl ?_))
  rw [Option.bind_assoc]
  refine w2sr ?_
  rw [Option.bind_assoc]
  have e34 : (up c3.2 12 (12 + R) c3.1) 10 3 = nI R := by rw [up_p (by decide), P3.2.1 10 3 (by omega)]; exact e33
  refine w2sr ?_
  rw [e34, nI_add, obs]
  have B4 : BS b L s0 (up a3.2 32 R a3.1) (up (up c3.2 12 (12 + R) c3.1) 10 3 (nI (R + 1))) := ((P3.2.2.1.u3 (by decide)).t12 (by omega)).t3 (by omega)
  have X4 : XC b L (up a3.2 32 R a3.1) (up (up c3.2 12 (12 + R) c3.1) 10 3 (nI (R + 1))) := ((P3.2.2.2.1.us (by omega)).ut (by omega)).ut (by omega)
  refine w2sr ((K_fin B4 X4).c (fun s5 t5 F => ?_))
  have K : keepC (up (up (up (up s 29 0 (nI (R + 1))) 30 R a.1) 31 R a2.1) 32 R a3.1) s5 := (((P1.1.lift.tr P2.1).lift).tr P3.1).lift.tr F.1
  have O : offK (up (up (up (up t 12 R c.1) 12 (6 + R) c2.1) 12 (12 + R) c3.1) 10 3 (nI (R + 1))) t5 := (((P1.2.1.lift.tr P2.2.1).lift).tr P3.2.1).lift.lift.tr F.2.1
  refine ⟨F.2.2.1, F.2.2.2.1, ?_, ?_, fun z => ⟨R + 1, ?_⟩, ?_⟩
  · rw [K 27 5 (by omega), up_p (by decide), up_p (by decide), up_p (by decide), up_p (by decide)]
  · exact P1.2.2.2.2.1.tr ((FM.u (by omega)).tr (P2.2.2.2.2.1.tr ((FM.u (by omega)).tr (P3.2.2.2.2.1.tr ((FM.u (by omega)).tr ((FM.u (by omega)).tr F.2.2.2.2.1))))))
  · have z3 := F.2.2.2.2.2 z
    rw [up_k (by decide), up_p (by decide)] at z3
    obtain ⟨y3, w3, _⟩ := P3.live z3
    rw [up_p (by decide)] at y3
    obtain ⟨y2, w2', _⟩ := P2.live y3
    rw [up_p (by decide)] at y2
    obtain ⟨y1, w1, _⟩ := P1.live y2
    have h := (D y1).room (v1 := a.1) (v2 := a2.1) (v3 := a3.1) hR6
    rw [← w1, ← w2', ← w3] at O
    exact h.k K O
  · exact P1.2.1.l.tr (offLn.ur.tr (P2.2.1.l.tr (offLn.ur.tr (P3.2.1.l.tr (offLn.ur.tr ((offLn.u (by decide)).tr F.2.1.l))))))
theorem K_26 {k k' kd : Nat} (hkd : kd ≤ 3) (hk : k ≤ 5) (hk' : k' ≤ 5) (B : BS b L s0 s t) (X : XC b L s t) (D : t 10 10 = nI 0 → k' = k ∧ DR s t R ∧ ¬ 0 < t 12 (18 + k)) : w2 (T_tellTongue_26 (nI kd) (nI k) s) ((M_readTongue_74 (nI kd) (nI k') (mxV (t 10 6) (nI k')) t).bind refFin) (PL b L s0 s t) := by
  unfold T_tellTongue_26 M_readTongue_74
  rw [nI_add, nI_add, nI_add]
  refine w2l rfl (by omega) (by decide) (w2sl ?_)
  rw [Option.bind_assoc]
  refine w2sr ?_
  rw [Option.bind_assoc]
  refine w2r rfl (by omega) (by decide) ?_
  rw [Option.bind_assoc]
  refine w2sr ?_
  rw [Option.bind_assoc]
  have B1 : BS b L s0 (up s 33 k (nI kd)) (up (up t 10 6 (mxV (t 10 6) (nI k'))) 12 (18 + k') (nI (kd + 1))) := ((B.u33 (Or.inr ⟨kd, by omega, rfl⟩)).t10 (by decide)).t12 (by omega)
  have X1 : XC b L (up s 33 k (nI kd)) (up (up t 10 6 (mxV (t 10 6) (nI k'))) 12 (18 + k') (nI (kd + 1))) := ((X.us (by omega)).ut (by omega)).ut (by omega)
  refine w2b (K_num (M := 99) (by decide) B1 X1) (fun a c P1 => ?_)
  rw [Option.bind_assoc]
  refine w2l rfl (by omega) (by decide) (w2r rfl (by omega) (by decide) (w2sl ?_))
  rw [Option.bind_assoc]
  refine w2sr ?_
  rw [obs]
  have B2 : BS b L s0 (up a.2 34 k a.1) (up c.2 12 (24 + k') c.1) := (P1.2.2.1.u3 (by decide)).t12 (by omega)
  have X2 : XC b L (up a.2 34 k a.1) (up c.2 12 (24 + k') c.1) := (P1.2.2.2.1.us (by omega)).ut (by omega)
  refine w2sr ((K_fin B2 X2).c (fun s5 t5 F => ?_))
  have K : keepC (up (up s 33 k (nI kd)) 34 k a.1) s5 := P1.1.lift.tr F.1
  have O : offK (up (up (up t 10 6 (mxV (t 10 6) (nI k'))) 12 (18 + k') (nI (kd + 1))) 12 (24 + k') c.1) t5 := P1.2.1.lift.tr F.2.1
  refine ⟨F.2.2.1, F.2.2.2.1, ?_, ?_, fun z => ⟨R, ?_⟩, ?_⟩
  · rw [K 27 5 (by omega), up_p (by decide), up_p (by decide)]
  · exact (FM.u (by omega)).tr ((FM.u (by omega)).tr (P1.2.2.2.2.1.tr ((FM.u (by omega)).tr F.2.2.2.2.1)))
  · have z3 := F.2.2.2.2.2 z
    rw [up_p (by decide)] at z3
    obtain ⟨y3, w3, _⟩ := P1.live z3
    rw [up_p (by decide), up_k (by decide)] at y3
    obtain ⟨ek, D0, hn⟩ := D y3
    subst ek
    obtain ⟨kc, hkc, ekc⟩ := P1.2.2.2.2.2.1
    rw [← w3, ekc] at O
    rw [ekc] at K
    have h := D0.tongue (w := k') (k := kd) (c := kc) (by omega) hkd hkc hn
    rw [nI_add] at h
    exact h.k K O
  · exact (offLn.u (by decide)).tr (offLn.ur.tr (P1.2.1.l.tr (offLn.ur.tr F.2.1.l)))
end LINE
end Q75
section Q76
/-! tongues, walls, the outside, told to both -/
section LINE2
variable {s t s' t' s0 : sg} {b : Nat → Int32} {L R : Nat} {x x1 x2 x3 v v1 v2 v3 : Int32}
theorem PL.pre {a c : sg} (k : keepC s a) (o : offLn t c) (f : FM t c) (h : PL b L s0 a c s' t') : PL b L s0 s t s' t' :=
  ⟨h.1, h.2.1, h.2.2.1.trans (k 27 5 (by omega)), f.tr h.2.2.2.1, h.2.2.2.2.1, o.tr h.2.2.2.2.2⟩
theorem XC.fl (X : XC b L s t) (h : ¬ s 27 3 = 0) : ¬ t 10 10 = 0 ∧ s 27 4 = t 10 11 := by
  rcases X with ⟨h3, _⟩ | ⟨h1, ⟨h3, _⟩ | ⟨_, h4⟩⟩
  · exact absurd h3 h
  · exact absurd h3 h
  · exact ⟨h1, h4⟩
theorem XC.fk (X : XC b L s t) (h : ¬ s 27 3 = 0) (f : FK s s') : XC b L s' t := by
  obtain ⟨h1, h4⟩ := X.fl h
  obtain ⟨f1, f2⟩ := f h
  exact Or.inr ⟨h1, Or.inr ⟨by rw [f1]; exact h, f2.trans h4⟩⟩
theorem M_fails_g {c : Int32} (e : t 10 10 = nI 0) : M_fails c t = some (up (up t 10 10 c) 10 11 (t 10 13)) := by
  unfold M_fails
  rw [e, if_pos (by decide)]
  show some (up (up t 10 10 c) 10 11 ((up t 10 10 c) 10 13)) = _
  rw [up_k (by decide)]
theorem rt_50 : M_readTongue_50 x1 t = (M_number (nI 0) (nI 5) t).bind fun v1 => M_readTongue_74 x1 v1.1 (mxV (v1.2 10 6) v1.1) v1.2 := by
  unfold M_readTongue_50
  congr 1
  funext v1
  unfold mxV
  by_cases c : v1.2 10 6 < v1.1
  · rw [if_pos c, if_pos c]
  · rw [if_neg c, if_neg c]
theorem rw_50 : M_readWall_50 t = (M_number (nI 0) (nI 4) t).bind fun v1 => M_readWall_78 v1.1 (mxV (v1.2 10 6) (v1.1 + nI 1)) v1.2 := by
  unfold M_readWall_50
  congr 1
  funext v1
  unfold mxV
  by_cases c : v1.2 10 6 < v1.1 + nI 1
  · rw [if_pos c, if_pos c]
  · rw [if_neg c, if_neg c]
theorem rt_cases : (M_readTongue x1 t = M_readTongue_50 x1 t ∧ ∀ w : Nat, w ≤ 5 → t 10 10 = nI 0 → t 10 14 = nI 2 → t 10 15 = nI w → ¬ 0 < t 12 (18 + w)) ∨ (∃ w : Nat, w ≤ 5 ∧ t 10 10 = nI 0 ∧ t 10 14 = nI 2 ∧ t 10 15 = nI w ∧ 0 < t 12 (18 + w) ∧ M_readTongue x1 t = M_readTongue_50 x1 (up (up t 10 10 (nI 4)) 10 11 (t 10 13))) := by
  unfold M_readTongue
  by_cases h10 : t 10 10 = 0
  · rw [if_pos h10]
    by_cases h14 : t 10 14 = nI 2
    · rw [if_pos h14, inP (lo := nI 0) (hi := nI 5) (by decide) (by decide)]
      by_cases c : ¬ t 10 15 < nI 0 ∧ ¬ nI 5 < t 10 15
      · obtain ⟨w, hw, ew⟩ := in_j (by decide) c
        rw [if_pos c]
        have e : ((midx ((nI 18) + (t 10 15)) 52).bind fun j1 => if 0 < t 12 j1 then (M_fails (nI 4) t).bind fun s1 => M_readTongue_50 x1 s1 else M_readTongue_50 x1 t) = if 0 < t 12 (18 + w) then (M_fails (nI 4) t).bind fun s1 => M_readTongue_50 x1 s1 else M_readTongue_50 x1 t := by
          rw [ew, nI_add, midx_nI (by omega) (by decide)]; rfl
        by_cases d : 0 < t 12 (18 + w)
        · refine Or.inr ⟨w, hw, h10, h14, ew, d, ?_⟩
          refine Eq.trans e ?_
          rw [if_pos d, M_fails_g h10]; rfl
        · refine Or.inl ⟨?_, fun w' hw' _ _ ew' => ?_⟩
          · rw [if_neg d] at e
            exact e
          · rw [ew, nI_eq (by omega) (by omega)] at ew'
            rw [← ew']; exact d
      · refine Or.inl ⟨by rw [if_neg c]; rfl, fun w' hw' _ _ ew' => absurd ⟨?_, ?_⟩ c⟩
        · rw [ew']; exact nI_pos (by omega)
        · rw [ew']; exact fun z => by have := (nI_ltI (by decide) (by omega)).mp z; omega
    · exact Or.inl ⟨by rw [if_neg h14], fun _ _ _ z _ => absurd z h14⟩
  · exact Or.inl ⟨by rw [if_neg h10], fun _ _ z _ _ => absurd z h10⟩
theorem hasT29 {k : Nat} (hk : k ≤ 5) : H_hasTongue 29 (nI k) s = some (if ¬ s 33 k = -1 then nI 1 else nI 0) := by
  unfold H_hasTongue
  rw [midx_nI (by omega) (by decide)]
  show (if s 33 k = -1 then some (nI 0) else some (nI 1)) = _
  by_cases c : s 33 k = -1
  · rw [if_pos c, if_neg (fun w => w c)]
  · rw [if_neg c, if_pos c]
theorem DR.no {k : Nat} (D : DR s t R) (hk : k ≤ 5) : (¬ s 33 k = -1) ↔ 0 < t 12 (18 + k) := by
  obtain ⟨⟨m, hm, e1, e2⟩, _⟩ := D.2.2.1 k (by omega)
  rw [e1, e2]
  have h : m = 0 ∨ m = 1 ∨ m = 2 ∨ m = 3 ∨ m = 4 := by omega
  rcases h with rfl | rfl | rfl | rfl | rfl <;> decide
theorem TX.f4 {q bb rr : Nat} (T : TX t L q bb rr) : TX (up (up t 10 10 (nI 4)) 10 11 v) L q 4 rr := (T.u10 (by decide)).u (by decide)
theorem BS.f4 (B : BS b L s0 s t) : BS b L s0 s (up (up t 10 10 (nI 4)) 10 11 v) := by
  obtain ⟨q, bb, rr, T⟩ := B.2.2.1
  exact B.tt ((offK.u (by decide)).tr (offK.u (by decide))) ⟨_, _, _, T.f4⟩
theorem nz4 : ¬ (up (up t 10 10 (nI 4)) 10 11 v) 10 10 = 0 := by rw [up_k (by decide), up_eq]; decide
theorem off4 : offLn t (up (up t 10 10 (nI 4)) 10 11 v) := (offK.tr (offK.u (by decide)) (offK.u (by decide))).l
theorem K_tongue {kd : Nat} (hkd : kd ≤ 3) (B : BS b L s0 s t) (X : XC b L s t) (D : t 10 10 = nI 0 → DR s t R) : w2 (T_tellTongue (nI kd) s) ((M_readMore (nI kd) t).bind refFin) (PL b L s0 s t) := by
  obtain ⟨q0, bb0, rr, T⟩ := B.2.2.1
  unfold T_tellTongue M_readMore
  rw [if_neg (fun z => by have := (nI_ltI (by decide) (by omega)).mp z; omega), obs]
  rcases rt_cases (x1 := nI kd) (t := t) with ⟨e, hno⟩ | ⟨w, hw, h10, h14, e15, hp, e⟩
  · rw [e, rt_50, Option.bind_assoc]
    refine w2b (K_num (M := 5) (by decide) B X) (fun a c P => ?_)
    obtain ⟨k, hk, ek⟩ := P.2.2.2.2.2.1
    obtain ⟨k', hk', ek'⟩ := P.2.2.2.2.2.2.1
    rw [ek, ek']
    refine w2Pl (hasT29 hk) (fun d => ?_) (fun d => ?_)
    · refine (K_26 (R := R) hkd hk hk' P.2.2.1 P.2.2.2.1 (fun z => ?_)).c (fun a' c' h => h.pre P.1 P.2.1.l P.2.2.2.2.1)
      rcases P.2.2.2.2.2.2.2 with ⟨z1, z2, z3, z4, z5, _⟩ | ⟨_, z2, _⟩
      · refine ⟨?_, (D z2).k P.1 P.2.1, ?_⟩
        · rw [ek, ek', nI_eq (by omega) (by omega)] at z4
          exact z4.symm
        · rw [P.2.1 12 _ (by omega)]
          exact hno k hk z2 z3 (z5.trans ek)
      · exact absurd z z2
    · have hf : ¬ a.2 27 3 = 0 := by
        rcases P.2.2.2.2.2.2.2 with ⟨z1, z2, z3, z4, z5, _⟩ | ⟨z1, _, _⟩
        · refine absurd ?_ (hno k hk z2 z3 (z5.trans ek))
          refine ((D z2).no hk).mp ?_
          rw [← P.1 33 k (by omega)]; exact d
        · exact z1
      refine w2bl (K_fail (by decide) (by decide)) (fun s1 g => ?_)
      refine (K_26 (R := R) hkd hk hk' (P.2.2.1.f g.1) (P.2.2.2.1.fk hf g.2.2.1) (fun z => absurd z (P.2.2.2.1.fl hf).1)).c (fun a' c' h => h.pre (P.1.tr g.1.c) P.2.1.l P.2.2.2.2.1)
  · obtain ⟨a, c, ea, ec, P⟩ := K_num (M := 5) (by decide) B X
    have lv : a.2 27 3 = 0 ∧ t 10 15 = a.1 ∧ a.2 27 7 = t 10 13 := by
      rcases P.2.2.2.2.2.2.2 with ⟨z1, z2, z3, z4, z5, z6⟩ | ⟨_, _, z3⟩
      · exact ⟨z1, z5, z6⟩
      · obtain ⟨k, h1, h2, h3⟩ := z3 h10 h14
        rw [e15, nI_eq (by omega) (by omega)] at h3
        omega
    have ea1 : a.1 = nI w := lv.2.1.symm.trans e15
    have hT : ¬ a.2 33 w = -1 := by
      rw [P.1 33 w (by omega)]
      exact ((D h10).no hw).mpr hp
    rw [ea, e, rt_50, M_num_f T.f4 nz4, Option.bind_assoc]
    refine w2sl (w2sr ?_)
    dsimp only
    rw [ea1]
    refine w2Pl (hasT29 hw) (fun d => absurd hT d) (fun _ => ?_)
    refine w2bl (K_fail (by decide) (by decide)) (fun s1 g => ?_)
    have X1 : XC b L s1 (up (up t 10 10 (nI 4)) 10 11 (t 10 13)) := Or.inr ⟨nz4, Or.inr ⟨g.2.1, by rw [up_eq, g.2.2.2 lv.1]; exact lv.2.2⟩⟩
    have B1 : BS b L s0 s1 (up (up t 10 10 (nI 4)) 10 11 (t 10 13)) := BS.f4 ⟨(P.2.2.1.f g.1).1, (P.2.2.1.f g.1).2.1, B.2.2⟩
    exact (K_26 (R := R) (k' := 0) hkd hw (by decide) B1 X1 (fun z => absurd z nz4)).c (fun a' c' h => h.pre (P.1.tr g.1.c) off4 (fun z => absurd h10 z))
theorem K_27 {k k' : Nat} (hk : k ≤ 4) (hk' : k' ≤ 4) (B : BS b L s0 s t) (X : XC b L s t) (D : t 10 10 = nI 0 → k' = k ∧ DR s t R) : w2 (T_tellWall_27 (nI k) s) ((M_readWall_78 (nI k') (mxV (t 10 6) (nI k' + nI 1)) t).bind refFin) (PL b L s0 s t) := by
  unfold T_tellWall_27 M_readWall_78
  rw [nI_add, nI_add]
  refine w2sl ?_
  rw [Option.bind_assoc]
  refine w2sr ?_
  rw [Option.bind_assoc, up_k (show 4 ≠ 6 by decide)]
  refine w2sr ?_
  rw [Option.bind_assoc]
  have B1 : BS b L s0 (up s 27 10 (s 27 10 ||| (nI 1 <<< (nI k &&& 31)))) (up (up t 10 6 (mxV (t 10 6) (nI (k' + 1)))) 10 4 (t 10 4 ||| (nI 1 <<< (nI k' &&& 31)))) := ((B.u27 (by decide)).t10 (by decide)).t10 (by decide)
  have X1 : XC b L (up s 27 10 (s 27 10 ||| (nI 1 <<< (nI k &&& 31)))) (up (up t 10 6 (mxV (t 10 6) (nI (k' + 1)))) 10 4 (t 10 4 ||| (nI 1 <<< (nI k' &&& 31)))) := ((X.us (by omega)).ut (by omega)).ut (by omega)
  refine w2b (K_num (M := 9) (by decide) B1 X1) (fun a c P1 => ?_)
  rw [Option.bind_assoc]
  refine w2l rfl (by omega) (by decide) (w2r rfl (by omega) (by decide) (w2sl ?_))
  rw [Option.bind_assoc]
  refine w2sr ?_
  rw [obs]
  have B2 : BS b L s0 (up a.2 35 k a.1) (up c.2 12 (36 + k') (c.1 - nI 2)) := (P1.2.2.1.u3 (by decide)).t12 (by omega)
  have X2 : XC b L (up a.2 35 k a.1) (up c.2 12 (36 + k') (c.1 - nI 2)) := (P1.2.2.2.1.us (by omega)).ut (by omega)
  refine w2sr ((K_fin B2 X2).c (fun s5 t5 F => ?_))
  have K : keepC (up (up s 27 10 (s 27 10 ||| (nI 1 <<< (nI k &&& 31)))) 35 k a.1) s5 := P1.1.lift.tr F.1
  have O : offK (up (up (up t 10 6 (mxV (t 10 6) (nI (k' + 1)))) 10 4 (t 10 4 ||| (nI 1 <<< (nI k' &&& 31)))) 12 (36 + k') (c.1 - nI 2)) t5 := P1.2.1.lift.tr F.2.1
  refine ⟨F.2.2.1, F.2.2.2.1, ?_, ?_, fun z => ⟨R, ?_⟩, ?_⟩
  · rw [K 27 5 (by omega), up_p (by decide), up_k (by decide)]
  · exact (FM.u (by omega)).tr ((FM.u (by omega)).tr (P1.2.2.2.2.1.tr ((FM.u (by omega)).tr F.2.2.2.2.1)))
  · have z3 := F.2.2.2.2.2 z
    rw [up_p (by decide)] at z3
    obtain ⟨y3, w3, _⟩ := P1.live z3
    rw [up_k (by decide), up_k (by decide)] at y3
    obtain ⟨ek, D0⟩ := D y3
    subst ek
    rw [← w3] at O
    exact (D0.wall (w := k') (v := a.1) (by omega)).k K O
  · exact (offLn.u (by decide)).tr ((offLn.u (by decide)).tr (P1.2.1.l.tr (offLn.ur.tr F.2.1.l)))
theorem rw_cases : (M_readWall t = M_readWall_50 t ∧ ∀ w : Nat, w ≤ 4 → t 10 10 = nI 0 → t 10 14 = nI 2 → t 10 15 = nI w → ¬ ((t 10 4) >>> (nI w &&& 31)) &&& (nI 1) = nI 1) ∨ (∃ w : Nat, w ≤ 4 ∧ t 10 10 = nI 0 ∧ t 10 14 = nI 2 ∧ t 10 15 = nI w ∧ ((t 10 4) >>> (nI w &&& 31)) &&& (nI 1) = nI 1 ∧ M_readWall t = M_readWall_50 (up (up t 10 10 (nI 4)) 10 11 (t 10 13))) := by
  unfold M_readWall
  by_cases h10 : t 10 10 = 0
  · rw [if_pos h10]
    by_cases h14 : t 10 14 = nI 2
    · rw [if_pos h14, inP (lo := nI 0) (hi := nI 4) (by decide) (by decide)]
      by_cases c : ¬ t 10 15 < nI 0 ∧ ¬ nI 4 < t 10 15
      · obtain ⟨w, hw, ew⟩ := in_j (by decide) c
        rw [if_pos c]
        by_cases d : ((t 10 4) >>> (nI w &&& 31)) &&& (nI 1) = nI 1
        · refine Or.inr ⟨w, hw, h10, h14, ew, d, ?_⟩
          show (if ((t 10 4) >>> ((t 10 15) &&& 31)) &&& (nI 1) = nI 1 then (M_fails (nI 4) t).bind (fun s1 => M_readWall_50 s1) else M_readWall_50 t) = _
          rw [ew, if_pos d, M_fails_g h10]; rfl
        · refine Or.inl ⟨?_, fun w' hw' _ _ ew' => ?_⟩
          · show (if ((t 10 4) >>> ((t 10 15) &&& 31)) &&& (nI 1) = nI 1 then (M_fails (nI 4) t).bind (fun s1 => M_readWall_50 s1) else M_readWall_50 t) = _
            rw [ew, if_neg d]
          · rw [ew, nI_eq (by omega) (by omega)] at ew'
            rw [← ew']; exact d
      · refine Or.inl ⟨by rw [if_neg c]; rfl, fun w' hw' _ _ ew' => absurd ⟨?_, ?_⟩ c⟩
        · rw [ew']; exact nI_pos (by omega)
        · rw [ew']; exact fun z => by have := (nI_ltI (by decide) (by omega)).mp z; omega
    · exact Or.inl ⟨by rw [if_neg h14], fun _ _ _ z _ => absurd z h14⟩
  · exact Or.inl ⟨by rw [if_neg h10], fun _ _ z _ _ => absurd z h10⟩
theorem DR.ms (D : DR s t R) : s 27 10 = t 10 4 := by
  obtain ⟨m, hz, _, _, m3, m4, _⟩ := D.2.2.2.2.2.2.2.2.1
  rw [m3, m4]
theorem K_wall (B : BS b L s0 s t) (X : XC b L s t) (D : t 10 10 = nI 0 → DR s t R) : w2 (T_tellWall s) ((M_readMore (nI 5) t).bind refFin) (PL b L s0 s t) := by
  obtain ⟨q0, bb0, rr, T⟩ := B.2.2.1
  unfold T_tellWall M_readMore
  rw [if_pos (show nI 3 < nI 5 by decide), if_neg (show ¬ nI 5 = nI 4 by decide), if_pos (show nI 5 = nI 5 from rfl), obs]
  rcases rw_cases (t := t) with ⟨e, hno⟩ | ⟨w, hw, h10, h14, e15, hp, e⟩
  · rw [e, rw_50, Option.bind_assoc]
    refine w2b (K_num (M := 4) (by decide) B X) (fun a c P => ?_)
    obtain ⟨k, hk, ek⟩ := P.2.2.2.2.2.1
    obtain ⟨k', hk', ek'⟩ := P.2.2.2.2.2.2.1
    rw [ek, ek']
    refine w2il (fun d => ?_) (fun d => ?_)
    · have hf : ¬ a.2 27 3 = 0 := by
        rcases P.2.2.2.2.2.2.2 with ⟨z1, z2, z3, z4, z5, _⟩ | ⟨z1, _, _⟩
        · refine absurd ?_ (hno k hk z2 z3 (z5.trans ek))
          rw [← (D z2).ms, ← P.1 27 10 (by omega)]; exact d
        · exact z1
      refine w2bl (K_fail (by decide) (by decide)) (fun s1 g => ?_)
      refine (K_27 (R := R) hk hk' (P.2.2.1.f g.1) (P.2.2.2.1.fk hf g.2.2.1) (fun z => absurd z (P.2.2.2.1.fl hf).1)).c (fun a' c' h => h.pre (P.1.tr g.1.c) P.2.1.l P.2.2.2.2.1)
    · refine (K_27 (R := R) hk hk' P.2.2.1 P.2.2.2.1 (fun z => ?_)).c (fun a' c' h => h.pre P.1 P.2.1.l P.2.2.2.2.1)
      obtain ⟨z2, z4, _⟩ := P.live z
      refine ⟨?_, (D z2).k P.1 P.2.1⟩
      rw [ek, ek', nI_eq (by omega) (by omega)] at z4
      exact z4.symm
  · obtain ⟨a, c, ea, ec, P⟩ := K_num (M := 4) (by decide) B X
    have lv : a.2 27 3 = 0 ∧ t 10 15 = a.1 ∧ a.2 27 7 = t 10 13 := by
      rcases P.2.2.2.2.2.2.2 with ⟨z1, z2, z3, z4, z5, z6⟩ | ⟨_, _, z3⟩
      · exact ⟨z1, z5, z6⟩
      · obtain ⟨k, h1, h2, h3⟩ := z3 h10 h14
        rw [e15, nI_eq (by omega) (by omega)] at h3
        omega
    have ea1 : a.1 = nI w := lv.2.1.symm.trans e15
    rw [ea, e, rw_50, M_num_f T.f4 nz4, Option.bind_assoc]
    refine w2sl (w2sr ?_)
    dsimp only
    rw [ea1, P.1 27 10 (by omega), (D h10).ms, if_pos hp]
    refine w2bl (K_fail (by decide) (by decide)) (fun s1 g => ?_)
    have X1 : XC b L s1 (up (up t 10 10 (nI 4)) 10 11 (t 10 13)) := Or.inr ⟨nz4, Or.inr ⟨g.2.1, by rw [up_eq, g.2.2.2 lv.1]; exact lv.2.2⟩⟩
    have B1 : BS b L s0 s1 (up (up t 10 10 (nI 4)) 10 11 (t 10 13)) := BS.f4 ⟨(P.2.2.1.f g.1).1, (P.2.2.1.f g.1).2.1, B.2.2⟩
    exact (K_27 (R := R) (k' := 0) hw (by decide) B1 X1 (fun z => absurd z nz4)).c (fun a' c' h => h.pre (P.1.tr g.1.c) off4 (fun z => absurd h10 z))
end LINE2
end Q76
section Q77
/-! the outside, told to both -/
section OUT
variable {s t s' t' s0 : sg} {b : Nat → Int32} {L R : Nat} {x x1 x2 x3 v v1 v2 v3 y : Int32}
theorem PL.pre5 {a c : sg} (k : a 27 5 = s 27 5) (o : offLn t c) (f : FM t c) (h : PL b L s0 a c s' t') : PL b L s0 s t s' t' :=
  ⟨h.1, h.2.1, h.2.2.1.trans k, f.tr h.2.2.2.1, h.2.2.2.2.1, o.tr h.2.2.2.2.2⟩
theorem PF.pl (F : PF b L s0 s t s' t') (D : t 10 10 = nI 0 → DR s t R) : PL b L s0 s t s' t' :=
  ⟨F.2.2.1, F.2.2.2.1, F.1 27 5 (by omega), F.2.2.2.2.1, fun z => ⟨R, (D (F.2.2.2.2.2 z)).k F.1 F.2.1⟩, F.2.1.l⟩
theorem K_ref {p : Nat} (hL : L ≤ 160) (eL : s 27 1 = nI L) (hb : ∀ i, i < L → s 28 i = b i) (e8 : s 27 8 = nI p) (hp : p ≤ L) : wp (T_refuseNinth s) (fun s' => keepF s s' ∧ FK s s' ∧ ((tkS b L p = nI 2 ∨ tkS b L p = nI 1) → s 27 3 = 0 → ¬ s' 27 3 = 0 ∧ s' 27 4 = nI (stV b L p)) ∧ (¬ (tkS b L p = nI 2 ∨ tkS b L p = nI 1) → s' = s)) := by
  have hst := stV_le (b := b) hp
  have go : ∀ y : Int32, y = tkS b L p → wp (T_refuseNinth_26 (nI (stV b L p)) y s) (fun s' => keepF s s' ∧ FK s s' ∧ ((tkS b L p = nI 2 ∨ tkS b L p = nI 1) → s 27 3 = 0 → ¬ s' 27 3 = 0 ∧ s' 27 4 = nI (stV b L p)) ∧ (¬ (tkS b L p = nI 2 ∨ tkS b L p = nI 1) → s' = s)) := fun y hy => by
    unfold T_refuseNinth_26 T_refuseNinth_37
    rw [hy]
    refine wi (fun c => ?_) (fun c => wi (fun d => ?_) (fun d => ws ⟨keepF.rf, FK.rf, fun w => absurd w (fun z => z.elim c d), fun _ => rfl⟩))
    · exact wb (K_fail (by decide) (by decide)) (fun s2 g => ws ⟨g.1, g.2.2.1, fun _ z => ⟨g.2.1, g.2.2.2 z⟩, fun w => absurd (Or.inl c) w⟩)
    · exact wb (K_fail (by decide) (by decide)) (fun s2 g => ws ⟨g.1, g.2.2.1, fun _ z => ⟨g.2.1, g.2.2.2 z⟩, fun w => absurd (Or.inr d) w⟩)
  unfold T_refuseNinth
  rw [K_place hL eL hb e8 hp]
  refine wsb ?_
  rw [eL]
  refine wi (fun c => ?_) (fun c => go _ ?_)
  · have hc := (nI_ltI (by omega) (by omega)).mp c
    refine wm rfl (by omega) (by decide) ?_
    rw [sortOf_eq, hb _ hc]
    exact wsb (go _ (by unfold tkS; rw [if_pos hc]))
  · unfold tkS
    rw [if_neg (fun w => c ((nI_ltI (by omega) (by omega)).mpr w))]
theorem rO_f {fu : Nat} (h : ¬ t 10 10 = 0) : M_readOut_2 (fu + 1) y t = some t := by
  rw [M_readOut_2, if_neg h]
theorem rO_n {fu : Nat} (h : ¬ t 10 14 = nI 2) : M_readOut_2 (fu + 1) y t = some t := by
  rw [M_readOut_2]
  by_cases c : t 10 10 = 0
  · rw [if_pos c, if_neg h]
  · rw [if_neg c]
theorem num_ok {p M w : Nat} (hM : M < 1000) (C : CR b L p t) (c2 : tkS b L p = nI 2) (e15 : t 10 15 = nI w) (hw : w ≤ M) : M_number (nI 0) (nI M) t = (M_step t).bind fun s1 => some (nI w, s1) := by
  have e14 : t 10 14 = nI 2 := C.2.2.2.1.trans c2
  unfold M_number M_number_20 M_number_47 M_number_62
  rw [C.1, if_pos (by decide), e14, if_pos rfl, if_pos (by decide), e15, inP (lo := nI 0) (hi := nI M) rfl rfl, if_pos ⟨nI_pos (by omega), fun z => by have := (nI_ltI (by omega) (by omega)).mp z; omega⟩]
  rfl
theorem XA.p8 (B : BS b L s0 s t) : ∃ p, p ≤ L ∧ s 27 8 = nI p := by
  obtain ⟨p, e, h⟩ := B.1.1.2.2.2.bh
  exact ⟨p, h, e⟩
theorem K_o27 : ∀ (n i fu fu' : Nat) (s t : sg), BS b L s0 s t → XA b L s t → (i = 8 → s 27 3 = 0 → ¬ s 27 6 = nI 2) → i + n = 8 → n < fu → n < fu' → (t 10 10 = nI 0 → DR s t R) → w2 (T_tellOut_27 fu (nI i) s) ((M_readOut_2 fu' (nI i) t).bind refFin) (PL b L s0 s t)
  | n, i, 0, fu', s, t, B, X, h8, hr, hf, hf', D => absurd hf (by omega)
  | n, i, fu + 1, 0, s, t, B, X, h8, hr, hf, hf', D => absurd hf' (by omega)
  | n, i, fu + 1, fu' + 1, s, t, B, X, h8, hr, hf, hf', D => by
    have fin : M_readOut_2 (fu' + 1) (nI i) t = some t → w2 (T_tellOut_74 s) ((M_readOut_2 (fu' + 1) (nI i) t).bind refFin) (PL b L s0 s t) := fun e => by
      rw [e]
      exact w2sr ((K_finA B X).c (fun a c F => F.pl D))
    rw [T_tellOut_27]
    by_cases ci : i < 8
    · obtain ⟨n, rfl⟩ : ∃ m, n = m + 1 := ⟨n - 1, by omega⟩
      rw [if_pos ((nI_ltI (by omega) (by decide)).mpr ci), nI_add]
      by_cases c6 : s 27 6 = nI 2
      · rw [if_pos c6]
        rcases X with ⟨h3, p, hp, nb, C, e6, e7, e8⟩ | ⟨h3, h1, h4⟩
        · have c2 : tkS b L p = nI 2 := e6.symm.trans c6
          obtain ⟨_, ew, w, hw, evw⟩ := W_tokenValue B.l B.1.1.2.2.2
          rw [K_value B.l B.2.1 hp c6 e7 e8] at ew ⊢
          cases ew
          have e15 : t 10 15 = nI w := (C.2.2.2.2 c2).trans evw
          rw [M_readOut_2, C.1, if_pos (by decide), C.2.2.2.1, if_pos c2, if_neg (i32_ne (by omega) (by omega) (by decide)), num_ok (by decide) C c2 e15 hw, evw, nI_add, nI_add]
          refine w2sl (w2l rfl (by omega) (by decide) (w2sl ?_))
          rw [Option.bind_assoc, Option.bind_assoc]
          refine w2br (R_stepC B (Or.inl ⟨h3, p, hp, nb, C, e6, e7, e8⟩)) (fun t1 g => ?_)
          refine w2sr ?_
          rw [Option.bind_assoc]
          refine w2r rfl (by omega) (by decide) ?_
          rw [Option.bind_assoc]
          refine w2sr ?_
          dsimp only
          have B1 : BS b L s0 (up s 36 i (nI w)) (up t1 12 (41 + i) (nI w - nI 10)) := (g.2.1.u3 (by decide)).t12 (by omega)
          have X1 : XC b L (up s 36 i (nI w)) (up t1 12 (41 + i) (nI w - nI 10)) := (g.2.2.1.us (by omega)).ut (by omega)
          have D1 : (up t1 12 (41 + i) (nI w - nI 10)) 10 10 = nI 0 → DR (up s 36 i (nI w)) (up t1 12 (41 + i) (nI w - nI 10)) R := fun z => by
            rw [up_p (by decide)] at z
            exact ((D (g.2.2.2.2 z)).k keepC.rf g.1).outs ci
          have o1 : offLn t (up t1 12 (41 + i) (nI w - nI 10)) := g.1.l.tr offLn.ur
          have f1 : FM t (up t1 12 (41 + i) (nI w - nI 10)) := g.2.2.2.1.tr (FM.u (by omega))
          have k1 : (up s 36 i (nI w)) 27 5 = s 27 5 := up_p (by decide)
          have z3 : (up s 36 i (nI w)) 27 3 = 0 := (up_p (by decide)).trans h3
          generalize up t1 12 (41 + i) (nI w - nI 10) = T2 at *
          generalize up s 36 i (nI w) = S1 at *
          have next : ∀ s2 : sg, keepF S1 s2 → BS b L s0 s2 T2 → XC b L s2 T2 → (i + 1 = 8 → s2 27 3 = 0 → T2 10 10 = nI 0 → ¬ T2 10 14 = nI 2) → w2 (T_tellOut_67 (T_tellOut_27 fu) (nI (i + 1)) s2) ((M_readOut_2 fu' (nI (i + 1)) T2).bind refFin) (PL b L s0 s t) := fun s2 kf B2 X2 hh => by
            unfold T_tellOut_67
            refine w2bl (K_tokA B2 X2) (fun s3 h3' => ?_)
            refine (K_o27 n (i + 1) fu fu' s3 T2 h3'.2.1 h3'.2.2 (fun e8' z36 z6 => ?_) (by omega) (by omega) (by omega) (fun z => (D1 z).k (kf.c.tr h3'.1) offK.rf)).c (fun a c h => h.pre5 ?_ o1 f1)
            · rcases h3'.2.2 with ⟨_, p3, _, _, C3, e63, _⟩ | ⟨q1, _⟩
              · have hs2 : s2 27 3 = 0 := by
                  rcases X2 with ⟨q, _⟩ | ⟨q1, _⟩
                  · exact q
                  · exact absurd C3.1 q1
                exact hh e8' hs2 C3.1 (C3.2.2.2.1.trans (e63.symm.trans z6))
              · exact absurd z36 q1
            · rw [h3'.1 27 5 (by omega), kf 27 5 (by omega)]; exact k1
          by_cases e9 : i + 1 = 8
          · rw [if_pos (by rw [e9])]
            obtain ⟨p', hp', e8'⟩ := XA.p8 B1
            refine w2bl (K_ref (b := b) B1.l B1.eL B1.2.1 e8' hp') (fun s2 r => ?_)
            obtain ⟨r1, r2, r3, r4⟩ := r
            by_cases c12 : tkS b L p' = nI 2 ∨ tkS b L p' = nI 1
            · obtain ⟨u1, u2⟩ := r3 c12 z3
              rcases X1 with ⟨_, p3, hp3, e83, nb3, C3⟩ | ⟨q1, ⟨_, p3, hp3, e83, nb3, q2⟩ | ⟨q2, _⟩⟩
              · have ep : p3 = p' := by
                  have h1 := B1.l
                  rw [e8', nI_eq (by omega) (by omega)] at e83
                  exact e83.symm
                subst ep
                obtain ⟨qq, bbq, rrq, TT⟩ := B1.2.2.1
                have ref : ∀ c : Nat, 0 < c → c ≤ 6 → ((M_readOut_2 fu' (nI (i + 1)) T2).bind refFin) = some (up (up T2 10 10 (nI c)) 10 11 (nI (stV b L p3))) → w2 (T_tellOut_67 (T_tellOut_27 fu) (nI (i + 1)) s2) ((M_readOut_2 fu' (nI (i + 1)) T2).bind refFin) (PL b L s0 s t) := fun c hc hc6 er => by
                  rw [er]
                  have T3 : TX (up (up T2 10 10 (nI c)) 10 11 (nI (stV b L p3))) L qq c rrq := (TT.u10 hc6).u (by decide)
                  have o3 : offK T2 (up (up T2 10 10 (nI c)) 10 11 (nI (stV b L p3))) := (offK.u (by decide)).tr (offK.u (by decide))
                  have nz3 : ¬ (up (up T2 10 10 (nI c)) 10 11 (nI (stV b L p3))) 10 10 = 0 := by rw [up_k (by decide), up_eq]; exact nI_ne0 hc (by omega)
                  have B3 : BS b L s0 s2 (up (up T2 10 10 (nI c)) 10 11 (nI (stV b L p3))) := (B1.f r1).tt o3 ⟨_, _, _, T3⟩
                  have X3 : XC b L s2 (up (up T2 10 10 (nI c)) 10 11 (nI (stV b L p3))) := Or.inr ⟨nz3, Or.inr ⟨u1, by rw [up_eq]; exact u2⟩⟩
                  unfold T_tellOut_67
                  refine w2bl (K_tokA B3 X3) (fun s3 h3' => ?_)
                  obtain ⟨fu, rfl⟩ : ∃ m, fu = m + 1 := ⟨fu - 1, by omega⟩
                  rw [T_tellOut_27, e9, if_neg (by decide)]
                  obtain ⟨a4, c4, ea4, ec4, F4⟩ := K_finA h3'.2.1 h3'.2.2
                  have hc4 : c4 = up (up T2 10 10 (nI c)) 10 11 (nI (stV b L p3)) := by
                    unfold refFin M_readLine_119 at ec4
                    rw [if_neg nz3, R_step1 T3 nz3] at ec4
                    exact (Option.some.inj ec4).symm
                  subst hc4
                  refine ⟨a4, _, ea4, rfl, ?_⟩
                  refine ⟨F4.2.2.1, F4.2.2.2.1, ?_, fun z => absurd C.1 z, fun z => absurd z nz3, o1.tr o3.l⟩
                  rw [F4.1 27 5 (by omega), h3'.1 27 5 (by omega), r1 27 5 (by omega)]; exact k1
                obtain ⟨fu', rfl⟩ : ∃ m, fu' = m + 1 := ⟨fu' - 1, by omega⟩
                have stepF : ∀ c : Nat, 0 < c → c ≤ 6 → refFin (up (up T2 10 10 (nI c)) 10 11 (nI (stV b L p3))) = some (up (up T2 10 10 (nI c)) 10 11 (nI (stV b L p3))) := fun c hc hc6 => by
                  have nz3 : ¬ (up (up T2 10 10 (nI c)) 10 11 (nI (stV b L p3))) 10 10 = 0 := by rw [up_k (by decide), up_eq]; exact nI_ne0 hc (by omega)
                  unfold refFin M_readLine_119
                  rw [if_neg nz3, R_step1 (((TT.u10 hc6).u (by decide)) : TX _ L qq c rrq) nz3]; rfl
                rcases c12 with c12 | c12
                · refine ref 5 (by decide) (by decide) ?_
                  rw [M_readOut_2, C3.1, if_pos (by decide), C3.2.2.2.1, if_pos c12, e9, if_pos rfl, M_fails_0 C3.1 C3.2.1]
                  exact stepF 5 (by decide) (by decide)
                · refine ref 2 (by decide) (by decide) ?_
                  rw [rO_n (by rw [C3.2.2.2.1, c12]; decide)]
                  show refFin T2 = _
                  have e1 : refFin T2 = (M_fails (nI 2) T2).bind fun s4 => M_readLine_119 s4 := by
                    unfold refFin
                    rw [C3.1, if_pos (by decide), C3.2.2.2.1, if_neg (by rw [c12]; decide)]
                  rw [e1, M_fails_0 C3.1 C3.2.1]
                  have nz3 : ¬ (up (up T2 10 10 (nI 2)) 10 11 (nI (stV b L p3))) 10 10 = 0 := by rw [up_k (by decide), up_eq]; decide
                  show M_readLine_119 (up (up T2 10 10 (nI 2)) 10 11 (nI (stV b L p3))) = _
                  unfold M_readLine_119
                  rw [R_step1 (((TT.u10 (q := 2) (by decide)).u (by decide)) : TX _ L qq 2 rrq) nz3]; rfl
              · have ep : p3 = p' := by
                  have h1 := B1.l
                  rw [e8', nI_eq (by omega) (by omega)] at e83
                  exact e83.symm
                subst ep
                exact next s2 r1 (B1.f r1) (Or.inr ⟨q1, Or.inr ⟨u1, u2.trans q2.symm⟩⟩) (fun _ _ z => absurd z q1)
              · exact absurd z3 q2
            · obtain rfl := r4 c12
              refine next s2 r1 B1 X1 (fun _ _ z z14 => ?_)
              rcases X1 with ⟨_, p3, hp3, e83, nb3, C3⟩ | ⟨q1, _⟩
              · have ep : p3 = p' := by
                  have h1 := B1.l
                  rw [e8', nI_eq (by omega) (by omega)] at e83
                  exact e83.symm
                subst ep
                exact c12 (Or.inl (C3.2.2.2.1.symm.trans z14))
              · exact absurd z q1
          · rw [if_neg (i32_ne e9 (by omega) (by decide))]
            exact next S1 keepF.rf B1 X1 (fun w => absurd w e9)
        · rw [rO_f h1]
          refine w2bl (W_tokenValue B.l B.1.1.2.2.2) (fun v _ => ?_)
          refine w2l rfl (by omega) (by decide) (w2sl ?_)
          have B1 : BS b L s0 (up s 36 i v) t := B.u3 (by decide)
          have X1 : XC b L (up s 36 i v) t := XC.us (Or.inr ⟨h1, Or.inr ⟨h3, h4⟩⟩) (by omega)
          have z3 : ¬ (up s 36 i v) 27 3 = 0 := by rw [up_p (by decide)]; exact h3
          have k1 : (up s 36 i v) 27 5 = s 27 5 := up_p (by decide)
          generalize up s 36 i v = S1 at *
          have next : ∀ s2 : sg, keepF S1 s2 → BS b L s0 s2 t → XC b L s2 t → w2 (T_tellOut_67 (T_tellOut_27 fu) (nI (i + 1)) s2) ((some t).bind refFin) (PL b L s0 s t) := fun s2 kf B2 X2 => by
            unfold T_tellOut_67
            refine w2bl (K_tokA B2 X2) (fun s3 h3' => ?_)
            have hz := h3'.2.2.fl h1
            have h := K_o27 n (i + 1) fu (fu' + 1) s3 t h3'.2.1 h3'.2.2 (fun _ z => absurd z hz.1) (by omega) (by omega) (by omega) (fun z => absurd z h1)
            rw [rO_f h1] at h
            refine h.c (fun a c h => h.pre5 ?_ offLn.rf FM.rf)
            rw [h3'.1 27 5 (by omega), kf 27 5 (by omega)]; exact k1
          refine w2il (fun _ => ?_) (fun _ => next S1 keepF.rf B1 X1)
          obtain ⟨p', hp', e8'⟩ := XA.p8 B1
          refine w2bl (K_ref (b := b) B1.l B1.eL B1.2.1 e8' hp') (fun s2 r => ?_)
          exact next s2 r.1 (B1.f r.1) (X1.fk z3 r.2.1)
      · rw [if_neg c6]
        refine fin ?_
        rcases X with ⟨h3, p, hp, nb, C, e6, e7, e8⟩ | ⟨h3, h1, h4⟩
        · exact rO_n (by rw [C.2.2.2.1, ← e6]; exact c6)
        · exact rO_f h1
    · rw [if_neg (fun z => ci ((nI_ltI (by omega) (by decide)).mp z))]
      refine fin ?_
      rcases X with ⟨h3, p, hp, nb, C, e6, e7, e8⟩ | ⟨h3, h1, h4⟩
      · exact rO_n (by rw [C.2.2.2.1, ← e6]; exact h8 (by omega) h3)
      · exact rO_f h1
theorem K_16 (B : BS b L s0 s t) (X : XC b L s t) (D : t 10 10 = nI 0 → DR (up s 27 9 (nI 1)) t R) : w2 (T_tellOut_16 s) ((M_readMore (nI 6) t).bind refFin) (PL b L s0 s t) := by
  unfold T_tellOut_16 M_readMore M_readOut
  rw [if_pos (show nI 3 < nI 6 by decide), if_neg (show ¬ nI 6 = nI 4 by decide), if_neg (show ¬ nI 6 = nI 5 by decide), obs]
  refine w2sl ?_
  refine w2bl (K_tokA (B.u27 (by decide)) (X.us (by omega))) (fun s2 h => ?_)
  refine (K_o27 (R := R) 8 0 FU FU s2 t h.2.1 h.2.2 (fun w => absurd w (by decide)) (by decide) (by decide) (by decide) (fun z => (D z).k h.1 offK.rf)).c (fun a c g => g.pre5 ?_ offLn.rf FM.rf)
  rw [h.1 27 5 (by omega), up_k (by decide)]
end OUT
end Q77
section Q78
/-! a line, told to both -/
section RLINE
variable {s t s' t' s0 : sg} {b : Nat → Int32} {L R : Nat} {x x1 x2 x3 v v1 v2 v3 y : Int32}
def ref79 (x1 : Int32) (t : sg) : Option sg := (M_step t).bind fun s2 => if 0 < s2 10 10 then some s2 else (M_readMore x1 s2).bind refFin
theorem r79 (hy : y = nI 0 ∨ y = nI 1) : M_readLine_79 x1 y t = ref79 x1 (up t 10 5 y) := by
  unfold M_readLine_79 ref79 refFin
  have h : y = 0 ∨ y = 1 := hy
  rw [if_pos h]
  rfl
theorem K_79 {f : sg → Option sg} (B : BS b L s0 s t) (X : XA b L s t) (J : ∀ t2, BS b L s0 s t2 → XC b L s t2 → offK t t2 → (t2 10 10 = nI 0 → t 10 10 = nI 0) → w2 (f s) ((M_readMore x1 t2).bind refFin) (PL b L s0 s t2)) : w2 (f s) (ref79 x1 t) (PL b L s0 s t) := by
  unfold ref79
  refine w2br (R_stepC B X) (fun t2 g => ?_)
  have h := J t2 g.2.1 g.2.2.1 g.1 g.2.2.2.2
  obtain ⟨q, bb, rr, T⟩ := g.2.1.2.2.1
  have hb := T.b2
  by_cases c : t2 10 10 = 0
  · rw [if_neg (by rw [c]; decide)]
    exact h.c (fun a c' p => p.pre keepC.rf g.1.l g.2.2.2.1)
  · have c1 : 0 < t2 10 10 := by
      rw [T.b] at c ⊢
      have : 0 < bb := Nat.pos_of_ne_zero (fun w => c (by rw [w]; rfl))
      exact (nI_ltI (a := 0) (by decide) (by omega)).mpr this
    rw [if_pos c1]
    obtain ⟨s1, t1, e1, e2, P⟩ := h
    obtain ⟨f1, f2⟩ := P.2.2.2.1 c
    refine ⟨s1, t2, e1, rfl, ⟨P.1.1, P.1.2.1, g.2.1.2.2⟩, ?_, P.2.2.1, g.2.2.2.1, fun z => absurd z c, g.1.l⟩
    have c' : ¬ t1 10 10 = 0 := by rw [f1]; exact c
    rcases P.2.1 with ⟨_, p, _, _, _, C⟩ | ⟨_, h2⟩
    · exact absurd C.1 c'
    · refine Or.inr ⟨c, ?_⟩
      rw [← f2]; exact h2
theorem K_bad {c : Nat} (hc : 0 < c) (hc6 : c ≤ 6) (B : BS b L s0 s t) (h3 : s 27 3 = 0) (X : XA b L s t) : w2 ((T_fail (nI c) (s 27 7) s).bind fun s4 => some s4) ((M_fails (nI c) t).bind fun s2 => some s2) (PL b L s0 s t) := by
  obtain ⟨q, bb, rr, T⟩ := B.2.2.1
  rcases X with ⟨_, p, hp, nb, C, e6, e7, e8⟩ | ⟨z, _⟩
  · rw [M_fails_0 C.1 C.2.1]
    refine w2bl (K_fail hc (by omega)) (fun s2 g => w2sr (w2s ?_))
    have o : offK t (up (up t 10 10 (nI c)) 10 11 (nI (stV b L p))) := (offK.u (by decide)).tr (offK.u (by decide))
    have T2 : TX (up (up t 10 10 (nI c)) 10 11 (nI (stV b L p))) L q c rr := (T.u10 hc6).u (by decide)
    have f1 : ¬ (up (up t 10 10 (nI c)) 10 11 (nI (stV b L p))) 10 10 = 0 := by rw [up_k (by decide), up_eq]; exact nI_ne0 hc (by omega)
    exact ⟨(B.f g.1).tt o ⟨_, _, _, T2⟩, Or.inr ⟨f1, Or.inr ⟨g.2.1, by rw [up_eq, g.2.2.2 h3]; exact e7⟩⟩, g.1 27 5 (by omega), fun w => absurd C.1 w, fun w => absurd w f1, o.l⟩
  · exact absurd h3 z
theorem flag_r (D : DR s t R) (hx : ¬ x1 = nI 6) : M_readLine_60 x1 t = ref79 x1 t := by
  unfold M_readLine_60 M_readLine_74
  rcases D.2.2.2.2.2.2.2.2.2.2 with h | h
  · rw [h, if_pos (by decide), if_neg hx, r79 (Or.inl rfl), up_self h]
  · rw [h, if_neg (by decide), r79 (Or.inr rfl), up_self h]
theorem K_line (B : BS b L s0 s t) (h3 : s 27 3 = 0) (X : XA b L s t) (D : DR s t R) (A : LT t) : w2 (T_tellLine s) (M_readLine t) (PL b L s0 s t) := by
  have X' := X
  obtain ⟨q, bb, rr, T⟩ := B.2.2.1
  rcases X with ⟨_, p, hp, nb, C, e6, e7, e8⟩ | ⟨z, _⟩
  · have hE := tkE_le (b := b) hp
    have T' : TX t L (tkE b L p) 0 rr := T.at hE.2 C.2.2.1 C.1
    have unknown : M_nameHere t = some (-4) → w2 (T_tellLine_17 (nI 13) s) (M_readLine t) (PL b L s0 s t) := fun e => by
      unfold T_tellLine_17 M_readLine
      rw [if_neg (by decide), if_neg (by decide), if_neg (by decide), if_pos (by decide), e]
      refine w2sr ?_
      rw [inP (lo := nI 0) (hi := nI 6) (by decide) (by decide), if_neg (by decide)]
      exact w2sr (K_bad (by decide) (by decide) B h3 X')
    unfold T_tellLine
    rw [e6]
    by_cases c1 : tkS b L p = nI 1
    · rw [if_pos c1, K_lineByName B.l B.2.1 e7 e8 hE.1 hE.2]
      refine w2sl ?_
      have en : M_nameHere t = some (if fnW b (stV b L p) (tkE b L p) 7 0 = 7 then -4 else nI (fnW b (stV b L p) (tkE b L p) 7 0)) := R_2 T' B.2.2.2 A C.2.1 hE.1 (C.2.2.2.1.trans c1) 7 0 FU (by decide) (by decide)
      have hle := fnW_le (b := b) (st := stV b L p) (e := tkE b L p) 7 0
      generalize fnW b (stV b L p) (tkE b L p) 7 0 = w at *
      by_cases c7 : w = 7
      · subst c7
        exact unknown (by rw [en, if_pos rfl])
      · rw [if_neg c7] at en
        have rd : M_readLine t = if nI w = nI 4 then (if t 10 3 = nI 6 then (M_fails (nI 5) t).bind fun s1 => M_readLine_42 (nI w) s1 else M_readLine_42 (nI w) t) else M_readLine_42 (nI w) t := by
          unfold M_readLine
          rw [en]
          show ((M_in (nI w).toInt64 (0 : Int64) (6 : Int64) t).bind _) = _
          rw [inP (lo := nI 0) (hi := nI 6) (by decide) (by decide), if_pos ⟨nI_pos (by omega), fun z => by have := (nI_ltI (by decide) (by omega)).mp z; omega⟩]
          rfl
        rw [rd]
        have hw : w < 4 ∨ w = 4 ∨ w = 5 ∨ w = 6 := by omega
        rcases hw with hw | rfl | rfl | rfl
        · rw [if_neg (i32_ne (by omega) (by omega) (by decide))]
          have e42 : M_readLine_42 (nI w) t = ref79 (nI w) t := by
            unfold M_readLine_42
            rw [if_neg (i32_ne (by omega) (by omega) (by decide))]
            exact flag_r D (i32_ne (by omega) (by omega) (by decide))
          have e17 : T_tellLine_17 (clC w) s = T_tellTongue (nI w) s := by
            unfold T_tellLine_17 clC
            rw [if_pos hw, if_neg (i32_ne (by omega) (by omega) (by decide)), if_neg (i32_ne (by omega) (by omega) (by decide)), if_neg (i32_ne (by omega) (by omega) (by decide)), if_neg (i32_ne (by omega) (by omega) (by decide)), obs]
          rw [e42, e17]
          exact K_79 (f := T_tellTongue (nI w)) B X' (fun t2 B2 X2 o2 _ => K_tongue (R := R) (by omega) B2 X2 (fun _ => D.k keepC.rf o2))
        · have e17 : T_tellLine_17 (clC 4) s = T_tellRoom s := by
            rw [show clC 4 = nI 10 by decide]
            unfold T_tellLine_17
            rw [if_pos rfl, obs]
          rw [e17, if_pos rfl, D.1.2.2]
          have hR := D.1.2.1
          by_cases c6 : R = 6
          · rw [if_pos (by rw [c6])]
            have eT : T_tellRoom s = (T_fail (nI 5) (s 27 7) s).bind fun s6 => some s6 := by
              unfold T_tellRoom
              rw [D.1.1, c6, if_neg (by decide)]
            have eM : ((M_fails (nI 5) t).bind fun s1 => M_readLine_42 (nI 4) s1) = (M_fails (nI 5) t).bind fun s2 => some s2 := by
              rw [M_fails_0 C.1 C.2.1]
              show M_readLine_42 (nI 4) (up (up t 10 10 (nI 5)) 10 11 (nI (stV b L p))) = some (up (up t 10 10 (nI 5)) 10 11 (nI (stV b L p)))
              have D5 : DR s (up (up t 10 10 (nI 5)) 10 11 (nI (stV b L p))) R := D.k keepC.rf ((offK.u (by decide)).tr (offK.u (by decide)))
              have nz : ¬ (up (up t 10 10 (nI 5)) 10 11 (nI (stV b L p))) 10 10 = 0 := by rw [up_k (by decide), up_eq]; decide
              have T5 : TX (up (up t 10 10 (nI 5)) 10 11 (nI (stV b L p))) L q 5 rr := (T.u10 (by decide)).u (by decide)
              unfold M_readLine_42
              rw [if_neg (by decide), flag_r D5 (by decide)]
              unfold ref79
              rw [R_step1 T5 nz]
              show (if 0 < (up (up t 10 10 (nI 5)) 10 11 (nI (stV b L p))) 10 10 then some (up (up t 10 10 (nI 5)) 10 11 (nI (stV b L p))) else (M_readMore (nI 4) (up (up t 10 10 (nI 5)) 10 11 (nI (stV b L p)))).bind refFin) = _
              rw [if_pos (by rw [T5.b]; decide)]
            rw [eT, eM]
            exact K_bad (by decide) (by decide) B h3 X'
          · rw [if_neg (i32_ne c6 (by omega) (by decide))]
            have e42 : M_readLine_42 (nI 4) t = ref79 (nI 4) t := by
              unfold M_readLine_42
              rw [if_neg (by decide)]
              exact flag_r D (by decide)
            rw [e42]
            exact K_79 (f := T_tellRoom) B X' (fun t2 B2 X2 o2 _ => K_room (R := R) B2 X2 D.1.1 (by omega) ((o2 10 3 (by omega)).trans D.1.2.2) (fun _ => D.k keepC.rf o2))
        · have e17 : T_tellLine_17 (clC 5) s = T_tellWall s := by
            rw [show clC 5 = nI 11 by decide]
            unfold T_tellLine_17
            rw [if_neg (by decide), if_pos rfl, obs]
          have e42 : M_readLine_42 (nI 5) t = ref79 (nI 5) t := by
            unfold M_readLine_42
            rw [if_neg (by decide)]
            exact flag_r D (by decide)
          rw [e17, if_neg (by decide), e42]
          exact K_79 (f := T_tellWall) B X' (fun t2 B2 X2 o2 _ => K_wall (R := R) B2 X2 (fun _ => D.k keepC.rf o2))
        · have e17 : T_tellLine_17 (clC 6) s = T_tellOut s := by
            rw [show clC 6 = nI 12 by decide]
            unfold T_tellLine_17
            rw [if_neg (by decide), if_neg (by decide), if_pos rfl, obs]
          rw [e17, if_neg (by decide)]
          obtain ⟨f1, f2⟩ := D.2.2.2.2.2.2.2.2.2
          unfold T_tellOut M_readLine_42
          rw [if_pos rfl, f1]
          have e60 : ∀ t1 : sg, (t1 10 5 = nI 0 ∨ t1 10 5 = nI 1) → M_readLine_60 (nI 6) t1 = ref79 (nI 6) (up t1 10 5 (nI 1)) := fun t1 hh => by
            unfold M_readLine_60 M_readLine_74
            rcases hh with hh | hh
            · rw [hh, if_pos (by decide), if_pos rfl, r79 (Or.inr rfl)]
            · rw [hh, if_neg (by decide), r79 (Or.inr rfl)]
          rcases f2 with f2 | f2
          · rw [f2, if_pos (by decide), if_pos (by decide), e60 t (Or.inl f2)]
            refine (K_79 (f := T_tellOut_16) (B.t10 (k := 5) (v := nI 1) (by decide)) (X'.ut (by omega)) (fun t2 B2 X2 o2 _ => K_16 (R := R) B2 X2 (fun _ => D.out1.k keepC.rf o2))).c (fun a c h => h.pre keepC.rf (offLn.u (by decide)) (FM.u (by omega)))
          · rw [f2, if_neg (by decide), if_neg (by decide), M_fails_0 C.1 C.2.1]
            refine w2sr ?_
            have o4 : offK t (up (up t 10 10 (nI 4)) 10 11 (nI (stV b L p))) := (offK.u (by decide)).tr (offK.u (by decide))
            rw [e60 _ (Or.inr (by rw [o4 10 5 (by omega)]; exact f2))]
            refine w2bl (K_fail (by decide) (by decide)) (fun s1 g => ?_)
            have B1 : BS b L s0 s1 (up (up (up t 10 10 (nI 4)) 10 11 (nI (stV b L p))) 10 5 (nI 1)) := (BS.f4 (B.f g.1)).t10 (by decide)
            have X1 : XA b L s1 (up (up (up t 10 10 (nI 4)) 10 11 (nI (stV b L p))) 10 5 (nI 1)) := XA.ut (Or.inr ⟨g.2.1, nz4, by rw [up_eq, g.2.2.2 h3]; exact e7⟩) (by omega)
            refine (K_79 (f := T_tellOut_16) B1 X1 (fun t2 B2 X2 o2 z2 => K_16 (R := R) B2 X2 (fun z => ?_))).c (fun a c h => h.pre g.1.c (off4.tr (offLn.u (by decide))) (fun w => absurd C.1 w))
            have := z2 z
            rw [up_k (by decide)] at this
            exact absurd this nz4
    · rw [if_neg c1]
      refine unknown ?_
      unfold M_nameHere
      show M_nameHere_2 t (99999 + 1) (nI 0) = _
      rw [M_nameHere_2, if_pos (by decide), C.2.2.2.1, if_neg c1]
  · exact absurd h3 z
end RLINE
end Q78
section Q79
/-! a whole text, told to both -/
section TEXTJ
variable {s t s' t' s0 : sg} {b : Nat → Int32} {L R : Nat} {x x1 x2 x3 v v1 v2 v3 y : Int32}
/-- what findMissing leaves -/
def QM (L : Nat) (P : Prop) (s s' : sg) : Prop := keepF s s' ∧ FK s s' ∧ (P → s 27 3 = 0 → ¬ s' 27 3 = 0 ∧ s' 27 4 = nI L) ∧ (¬ P → s' = s)
theorem QM.step {P Q : Prop} {s1 s2 : sg} (h1 : QM L P s s1) (h2 : QM L Q s1 s2) : QM L (P ∨ Q) s s2 := by
  refine ⟨?_, h1.2.1.tr h2.2.1, fun w z => ?_, fun w => ?_⟩
  · exact fun p k hp => (h2.1 p k hp).trans (h1.1 p k hp)
  · by_cases c : P
    · obtain ⟨u1, u2⟩ := h1.2.2.1 c z
      obtain ⟨f1, f2⟩ := h2.2.1 u1
      exact ⟨by rw [f1]; exact u1, f2.trans u2⟩
    · obtain rfl := h1.2.2.2 c
      exact h2.2.2.1 (w.resolve_left c) z
  · obtain rfl := h1.2.2.2 (fun z => w (Or.inl z))
    exact h2.2.2.2 (fun z => w (Or.inr z))
theorem QM.iff {P Q : Prop} (h : QM L P s s') (e : P ↔ Q) : QM L Q s s' := ⟨h.1, h.2.1, fun w => h.2.2.1 (e.mpr w), fun w => h.2.2.2 (fun z => w (e.mp z))⟩
theorem QM.no (s : sg) : QM L False s s := ⟨keepF.rf, FK.rf, fun w => w.elim, fun _ => rfl⟩
theorem K_f6 (eL : s 27 1 = nI L) : wp (T_fail (nI 6) (s 27 1) s) (QM L True s) := by
  refine wc (K_fail (by decide) (by decide)) (fun s' g => ⟨g.1, g.2.2.1, fun _ z => ⟨g.2.1, (g.2.2.2 z).trans eL⟩, fun w => absurd trivial w⟩)
def bitW (s : sg) (w : Nat) : Prop := ((s 27 10) >>> (nI w &&& 31)) &&& (nI 1) = nI 1
theorem F_43 (hR : R ≤ 6) : ∀ (n w fu : Nat) (s : sg), s 27 1 = nI L → s 29 0 = nI R → w + n = 5 → n < fu → wp (T_findMissing_43 fu (nI w) s) (QM L (∃ u, w ≤ u ∧ u < 5 ∧ bitW s u ∧ ¬ u + 1 < R) s)
  | n, w, 0, s, eL, eR, hr, hf => absurd hf (by omega)
  | n, w, fu + 1, s, eL, eR, hr, hf => by
    rw [T_findMissing_43]
    refine wi (fun c => ?_) (fun c => ?_)
    · have hw := (nI_ltI (by omega) (by decide)).mp c
      obtain ⟨n, rfl⟩ : ∃ m, n = m + 1 := ⟨n - 1, by omega⟩
      rw [nI_add]
      have next : ∀ (P : Prop) (s1 : sg), QM L P s s1 → ((P ∨ ∃ u, w + 1 ≤ u ∧ u < 5 ∧ bitW s u ∧ ¬ u + 1 < R) ↔ ∃ u, w ≤ u ∧ u < 5 ∧ bitW s u ∧ ¬ u + 1 < R) → wp (T_findMissing_43 fu (nI (w + 1)) s1) (QM L (∃ u, w ≤ u ∧ u < 5 ∧ bitW s u ∧ ¬ u + 1 < R) s) := fun P s1 q e => by
        refine wc (F_43 hR n (w + 1) fu s1 ((q.1 27 1 (by omega)).trans eL) ((q.1 29 0 (by omega)).trans eR) (by omega) (by omega)) (fun s2 g => ?_)
        have e2 : ∀ u, bitW s1 u ↔ bitW s u := fun u => by unfold bitW; rw [q.1 27 10 (by omega)]
        have g' : QM L (∃ u, w + 1 ≤ u ∧ u < 5 ∧ bitW s u ∧ ¬ u + 1 < R) s1 s2 := g.iff ⟨fun ⟨u, a1, a2, a3, a4⟩ => ⟨u, a1, a2, (e2 u).mp a3, a4⟩, fun ⟨u, a1, a2, a3, a4⟩ => ⟨u, a1, a2, (e2 u).mpr a3, a4⟩⟩
        exact (q.step g').iff e
      have skip : ¬ (bitW s w ∧ ¬ w + 1 < R) → wp (T_findMissing_43 fu (nI (w + 1)) s) (QM L (∃ u, w ≤ u ∧ u < 5 ∧ bitW s u ∧ ¬ u + 1 < R) s) := fun h => by
        refine next False s (QM.no s) ⟨fun z => ?_, fun ⟨u, a1, a2, a3, a4⟩ => ?_⟩
        · rcases z with z | ⟨u, a1, a2, a3, a4⟩
          · exact z.elim
          · exact ⟨u, by omega, a2, a3, a4⟩
        · by_cases cu : u = w
          · subst cu
            exact absurd ⟨a3, a4⟩ h
          · exact Or.inr ⟨u, by omega, a2, a3, a4⟩
      refine wi (fun d => ?_) (fun d => skip (fun z => d z.1))
      have eW : H_hasWall 29 (nI w) s = some (if w + 1 < R then nI 1 else nI 0) := by
        unfold H_hasWall
        rw [if_neg (nI_pos (by omega)), eR]
        by_cases f : w + 1 < R
        · rw [if_pos ((nI_m1 (by omega) (by omega)).mpr f), if_pos f]
        · rw [if_neg (fun z => f ((nI_m1 (by omega) (by omega)).mp z)), if_neg f]
      refine wbP eW (fun f => ?_) (fun f => skip (fun z => z.2 f))
      refine wb (K_f6 eL) (fun s1 q => next True s1 q ⟨fun _ => ⟨w, Nat.le_refl _, hw, d, f⟩, fun _ => Or.inl trivial⟩)
    · have hw : ¬ w < 5 := fun z => c ((nI_ltI (by omega) (by decide)).mpr z)
      exact ws ((QM.no s).iff ⟨fun z => z.elim, fun ⟨u, a1, a2, _⟩ => by omega⟩)
theorem F_8 (hR : R ≤ 6) : ∀ (n r fu : Nat) (s : sg), s 27 1 = nI L → s 29 0 = nI R → r + n = 6 → n < fu → wp (T_findMissing_8 fu (nI r) s) (QM L ((∃ u, r ≤ u ∧ u < 6 ∧ ¬ s 33 u = -1) ∨ ∃ u, 0 ≤ u ∧ u < 5 ∧ bitW s u ∧ ¬ u + 1 < R) s)
  | n, r, 0, s, eL, eR, hr, hf => absurd hf (by omega)
  | n, r, fu + 1, s, eL, eR, hr, hf => by
    rw [T_findMissing_8]
    refine wi (fun c => ?_) (fun c => ?_)
    · have hw := (nI_ltI (by omega) (by decide)).mp c
      obtain ⟨n, rfl⟩ : ∃ m, n = m + 1 := ⟨n - 1, by omega⟩
      rw [nI_add]
      have next : ∀ (P : Prop) (s1 : sg), QM L P s s1 → ((P ∨ ∃ u, r + 1 ≤ u ∧ u < 6 ∧ ¬ s 33 u = -1) ↔ ∃ u, r ≤ u ∧ u < 6 ∧ ¬ s 33 u = -1) → wp (T_findMissing_8 fu (nI (r + 1)) s1) (QM L ((∃ u, r ≤ u ∧ u < 6 ∧ ¬ s 33 u = -1) ∨ ∃ u, 0 ≤ u ∧ u < 5 ∧ bitW s u ∧ ¬ u + 1 < R) s) := fun P s1 q e => by
        refine wc (F_8 hR n (r + 1) fu s1 ((q.1 27 1 (by omega)).trans eL) ((q.1 29 0 (by omega)).trans eR) (by omega) (by omega)) (fun s2 g => ?_)
        have e2 : ∀ u, bitW s1 u ↔ bitW s u := fun u => by unfold bitW; rw [q.1 27 10 (by omega)]
        have e3 : ∀ u, s1 33 u = s 33 u := fun u => q.1 33 u (by omega)
        have g' : QM L ((∃ u, r + 1 ≤ u ∧ u < 6 ∧ ¬ s 33 u = -1) ∨ ∃ u, 0 ≤ u ∧ u < 5 ∧ bitW s u ∧ ¬ u + 1 < R) s1 s2 := g.iff ⟨fun z => z.elim (fun ⟨u, a1, a2, a3⟩ => Or.inl ⟨u, a1, a2, by rw [← e3 u]; exact a3⟩) (fun ⟨u, a1, a2, a3, a4⟩ => Or.inr ⟨u, a1, a2, (e2 u).mp a3, a4⟩), fun z => z.elim (fun ⟨u, a1, a2, a3⟩ => Or.inl ⟨u, a1, a2, by rw [e3 u]; exact a3⟩) (fun ⟨u, a1, a2, a3, a4⟩ => Or.inr ⟨u, a1, a2, (e2 u).mpr a3, a4⟩)⟩
        refine (q.step g').iff ⟨fun z => ?_, fun z => ?_⟩
        · rcases z with z | z | z
          · exact Or.inl (e.mp (Or.inl z))
          · exact Or.inl (e.mp (Or.inr z))
          · exact Or.inr z
        · rcases z with z | z
          · exact (e.mpr z).elim Or.inl (fun w => Or.inr (Or.inl w))
          · exact Or.inr (Or.inr z)
      refine wbP (hasT29 (by omega)) (fun f => ?_) (fun f => ?_)
      · refine next False s (QM.no s) ⟨fun z => ?_, fun ⟨u, a1, a2, a3⟩ => ?_⟩
        · rcases z with z | ⟨u, a1, a2, a3⟩
          · exact z.elim
          · exact ⟨u, by omega, a2, a3⟩
        · by_cases cu : u = r
          · subst cu
            exact absurd a3 f
          · exact Or.inr ⟨u, by omega, a2, a3⟩
      · exact wb (K_f6 eL) (fun s1 q => next True s1 q ⟨fun _ => ⟨r, Nat.le_refl _, hw, f⟩, fun _ => Or.inl trivial⟩)
    · have hw : ¬ r < 6 := fun z => c ((nI_ltI (by omega) (by decide)).mpr z)
      refine wc (F_43 hR 5 0 FU s eL eR (by omega) (by decide)) (fun s2 g => g.iff ⟨fun z => Or.inr z, fun z => z.elim (fun ⟨u, a1, a2, _⟩ => by omega) id⟩)
theorem DR.miss (D : DR s t R) : ((∃ u, R ≤ u ∧ u < 6 ∧ ¬ s 33 u = -1) ∨ ∃ u, 0 ≤ u ∧ u < 5 ∧ bitW s u ∧ ¬ u + 1 < R) ↔ ¬ t 10 6 < t 10 3 := by
  obtain ⟨m, hz, m1, m2, m3, m4, m5, m6, m7, m8⟩ := D.2.2.2.2.2.2.2.2.1
  have hR := D.1.2.1
  have e : (t 10 6 < t 10 3) ↔ hz ≤ R := by
    rw [m5, D.1.2.2, Int32.lt_iff_toInt_lt, pk_sub_toInt (by omega) (by decide), nI_toInt (by omega)]
    omega
  have eb : ∀ u, u < 5 → (bitW s u ↔ m / 2 ^ u % 2 = 1) := fun u hu => by
    unfold bitW
    rw [m3, bt_sh m (by omega) u (by omega), nI_eq (by omega) (by decide)]
  rw [e]
  constructor
  · rintro (⟨u, a1, a2, a3⟩ | ⟨u, a1, a2, a3, a4⟩)
    · have := m6 u a2 ((D.no (by omega)).mp a3)
      omega
    · have := m7 u a2 ((eb u a2).mp a3)
      omega
  · intro h
    rcases m8 with q | q | ⟨q1, q2⟩
    · omega
    · exact Or.inl ⟨hz - 1, by omega, by omega, (D.no (by omega)).mpr q⟩
    · exact Or.inr ⟨hz - 2, by omega, by omega, (eb _ (by omega)).mpr q2, by omega⟩
def succT (T c : sg) : Prop := (∀ k, k < 52 → c 11 k = T 12 k) ∧ c 10 1 = T 10 3 ∧ c 10 22 = nI 0 ∧ c 19 0 = nI 0 ∧ c 19 1 = nI 0 ∧ ∀ p k, ¬ (p = 11 ∧ k < 52) → ¬ (p = 10 ∧ (k = 1 ∨ k = 22 ∨ k = 8 ∨ k = 9)) → p ≠ 19 → c p k = T p k
theorem E_135 {T : sg} : ∀ (n q fu : Nat) (t : sg), (∀ k, k < q → t 11 k = T 12 k) → (∀ k, t 12 k = T 12 k) → (∀ p k, ¬ (p = 11 ∧ k < 52) → ¬ (p = 10 ∧ (k = 8 ∨ k = 9)) → t p k = T p k) → q + n = 52 → n < fu → wp (M_text_135 x1 fu (nI q) t) (fun c => c.1 = x1 ∧ succT T c.2 ∧ c.2 10 8 = t 10 8)
  | n, q, 0, t, h1, h2, o, hr, hf => absurd hf (by omega)
  | n, q, fu + 1, t, h1, h2, o, hr, hf => by
    rw [M_text_135]
    refine wi (fun c => ?_) (fun c => ?_)
    · have hc := (nI_ltI (by omega) (by decide)).mp c
      obtain ⟨n, rfl⟩ : ∃ m, n = m + 1 := ⟨n - 1, by omega⟩
      refine wm rfl (by omega) (by decide) (wm rfl (by omega) (by decide) (wsb ?_))
      rw [nI_add]
      refine wc (E_135 n (q + 1) fu _ (fun k hk => ?_) (fun k => (up_p (by decide)).trans (h2 k)) (fun p k a1 a2 => ?_) (by omega) (by omega)) (fun a g => ⟨g.1, g.2.1, g.2.2.trans (up_p (by decide))⟩)
      · by_cases z : k = q
        · rw [z, up_eq]; exact h2 q
        · rw [up_k z]; exact h1 k (by omega)
      · rw [up, if_neg (fun w => a1 ⟨w.1, by omega⟩)]; exact o p k a1 a2
    · have hq : q = 52 := by
        have : ¬ q < 52 := fun z => c ((nI_ltI (by omega) (by decide)).mpr z)
        omega
      subst hq
      have k0 : vp_nar .boolean (nI 0) = nI 0 := by decide
      rw [k0]
      refine wsb (wsb (wm rfl (by decide) (by decide) (wsb (wm rfl (by decide) (by decide) (wsb (ws ⟨rfl, ⟨fun k hk => ?_, ?_, ?_, ?_, ?_, fun p k a1 a2 a3 => ?_⟩, ?_⟩))))))
      all_goals dsimp only
      · rw [up_p (by decide), up_p (by decide), up_p (by decide), up_p (by decide)]; exact h1 k hk
      · rw [up_p (by decide), up_p (by decide), up_k (by decide), up_eq]; exact o 10 3 (by omega) (by omega)
      · rw [up_p (by decide), up_p (by decide), up_eq]
      · rw [up_k (by decide), up_eq]
      · rw [up_eq]
      · rw [up, if_neg (fun w => a3 w.1), up, if_neg (fun w => a3 w.1), up, if_neg (fun w => a2 ⟨w.1, by omega⟩), up, if_neg (fun w => a2 ⟨w.1, by omega⟩)]
        exact o p k a1 (fun w => a2 ⟨w.1, by omega⟩)
      · rw [up_p (by decide), up_p (by decide), up_k (by decide), up_k (by decide)]
def PT (b : Nat → Int32) (L : Nat) (s0 t : sg) (a c : Int32 × sg) : Prop := offL s0 a.2 ∧ c.2 10 8 = nI 0 ∧ ((a.1 = nI 0 ∧ c.1 = -10 - a.2 27 4 ∧ offX t c.2) ∨ (a.1 = nI 1 ∧ c.1 = a.2 27 5 ∧ ∃ (R : Nat) (T : sg), DR a.2 T R ∧ offLn t T ∧ succT T c.2))
theorem K_88 {i : Nat} (B : BS b L s0 s t) (X : XA b L s t) (D : t 10 10 = nI 0 → ∃ R, DR s t R) (h6 : s 27 3 = 0 → s 27 6 = nI 0) (e5 : s 27 5 = nI i) : w2 (T_tell_88 s) (M_text_81 (nI i) t) (PT b L s0 t) := by
  obtain ⟨R', H⟩ := B.1.1.2.2.1
  obtain ⟨q, bb, rr, T⟩ := B.2.2.1
  unfold T_tell_88 T_findMissing
  rw [H.1]
  refine w2bl (F_8 (R := R') H.2.1 (6 - R') R' FU s B.eL H.1 (by have := H.2.1; omega) (by show 6 - R' < 100000; omega)) (fun s1 g => ?_)
  have oL : offL s0 s1 := fun p hp => by
    have h1 := B.1.2 p hp
    rw [← h1]
    funext k
    exact g.1 p k (fun w => hp (Or.inl w.1))
  have bad : ∀ t1 : sg, offK t t1 → ¬ t1 10 10 = 0 → (∃ q bb rr, TX t1 L q bb rr) → s1 27 4 = t1 10 11 → ¬ s1 27 3 = 0 → w2 (if s1 27 3 = 0 then some (nI 1, s1) else some (nI 0, s1)) (M_text_105 (nI i) t1) (PT b L s0 t) := fun t1 o nz ⟨q1, b1, r1, T1⟩ e4 n3 => by
    rw [if_neg n3]
    unfold M_text_105
    have hpos : 0 < t1 10 10 := by
      have hb := T1.b2
      rw [T1.b] at nz ⊢
      have : 0 < b1 := Nat.pos_of_ne_zero (fun w => nz (by rw [w]; rfl))
      exact (nI_ltI (a := 0) (by decide) (by omega)).mpr this
    refine w2sr (w2sr ?_)
    rw [up_k (show 10 ≠ 8 by decide), up_k (show 10 ≠ 9 by decide), up_k (show 10 ≠ 8 by decide), if_pos hpos]
    refine w2s ⟨oL, ?_, Or.inl ⟨rfl, ?_, ?_⟩⟩
    · show (up (up t1 10 8 (nI 0)) 10 9 (t1 10 10)) 10 8 = nI 0
      rw [up_k (by decide), up_eq]
    · show -10 - (up (up t1 10 8 (nI 0)) 10 9 (t1 10 10)) 10 11 = -10 - s1 27 4
      rw [up_k (by decide), up_k (by decide), e4]
    · intro p k a1 a2
      show (up (up t1 10 8 (nI 0)) 10 9 (t1 10 10)) p k = t p k
      rw [up, if_neg (fun w => a1 ⟨w.1, by omega⟩), up, if_neg (fun w => a1 ⟨w.1, by omega⟩)]
      exact o p k (fun w => a1 ⟨w.1, by omega⟩)
  unfold M_text_81
  rcases X with ⟨h3, p, hp, nb, C, e6, e7, e8⟩ | ⟨h3, h1, h4⟩
  · obtain ⟨R, D0⟩ := D C.1
    have eR : R' = R := by
      have h := D0.1.1
      have h2 := H.2.1
      have h3 := D0.1.2.1
      rw [H.1, nI_eq (by omega) (by omega)] at h
      exact h
    subst eR
    have k0 : tkS b L p = nI 0 := e6.symm.trans (h6 h3)
    have hst : stV b L p = L := by
      have h := stV_le (b := b) hp
      refine Nat.le_antisymm h.2 (Nat.le_of_not_lt (fun c => ?_))
      unfold tkS at k0
      rw [if_pos c] at k0
      unfold srV at k0
      by_cases c1 : ¬ b (stV b L p) < nI 97 ∧ ¬ nI 122 < b (stV b L p)
      · rw [if_pos c1] at k0; exact absurd k0 (by decide)
      · rw [if_neg c1] at k0
        by_cases c2 : ¬ b (stV b L p) < nI 48 ∧ ¬ nI 57 < b (stV b L p)
        · rw [if_pos c2] at k0; exact absurd k0 (by decide)
        · rw [if_neg c2] at k0
          by_cases c3 : b (stV b L p) = nI 59
          · rw [if_pos c3] at k0; exact absurd k0 (by decide)
          · rw [if_neg c3] at k0; exact absurd k0 (by decide)
    rw [C.1, if_pos (show nI 0 = 0 from rfl)]
    by_cases cm : t 10 6 < t 10 3
    · have es : s1 = s := g.2.2.2 (fun w => (D0.miss.mp w) cm)
      subst es
      rw [if_pos cm, if_pos h3]
      unfold M_text_105
      refine w2sr (w2sr ?_)
      rw [up_k (show 10 ≠ 8 by decide), up_k (show 10 ≠ 9 by decide), up_k (show 10 ≠ 8 by decide), C.1, if_neg (by decide)]
      obtain ⟨c, ec, h1, h2, h8⟩ := E_135 (x1 := nI i) (T := t) 52 0 FU (up (up t 10 8 (nI 0)) 10 9 (nI 0)) (fun k hk => absurd hk (by omega)) (fun k => by rw [up_p (by decide), up_p (by decide)]) (fun p k a1 a2 => by rw [up, if_neg (fun w => a2 ⟨w.1, by omega⟩), up, if_neg (fun w => a2 ⟨w.1, by omega⟩)]) (by decide) (by decide)
      refine ⟨_, c, rfl, ec, oL, ?_, Or.inr ⟨rfl, ?_, R', t, D0, offLn.rf, h2⟩⟩
      · rw [h8, up_k (by decide), up_eq]
      · rw [h1]; exact e5.symm
    · rw [if_neg cm, M_fails_0 C.1 C.2.1]
      refine w2sr ?_
      obtain ⟨u1, u2⟩ := g.2.2.1 (D0.miss.mpr cm) h3
      refine bad (up (up t 10 10 (nI 6)) 10 11 (nI (stV b L p))) ((offK.u (by decide)).tr (offK.u (by decide))) ?_ ⟨q, 6, rr, (T.u10 (by decide)).u (by decide)⟩ ?_ u1
      · rw [up_k (by decide), up_eq]; decide
      · rw [up_eq, u2, hst]
  · rw [if_neg h1]
    obtain ⟨f1, f2⟩ := g.2.1 h3
    exact bad t offK.rf h1 ⟨q, bb, rr, T⟩ (f2.trans h4) (by rw [f1]; exact h3)
end TEXTJ
end Q79
section Q80
/-! a whole text, from the first letter on -/
section TOLD
variable {s t s' t' s0 : sg} {b : Nat → Int32} {L R : Nat} {x x1 x2 x3 v v1 v2 v3 y : Int32}
theorem PT.pre {c : sg} {a : Int32 × sg} {d : Int32 × sg} (o : offLn t c) (h : PT b L s0 c a d) : PT b L s0 t a d := by
  refine ⟨h.1, h.2.1, ?_⟩
  rcases h.2.2 with ⟨h1, h2, h3⟩ | ⟨h1, h2, R, T, h3, h4, h5⟩
  · exact Or.inl ⟨h1, h2, fun p k a1 a2 => (h3 p k a1 a2).trans (o p k (fun w => a1 ⟨w.1, by omega⟩) a2)⟩
  · exact Or.inr ⟨h1, h2, R, T, h3, o.tr h4, h5⟩
theorem LT.l (A : LT t) (o : offLn t t') : LT t' := A.k (by funext k; exact o 14 k (by omega) (by decide)) (by funext k; exact o 15 k (by omega) (by decide))
theorem K_43 : ∀ (n i fu fu' pos : Nat) (s t : sg), BS b L s0 s t → XA b L s t → (t 10 10 = nI 0 → ∃ R, DR s t R) → LT t → t 10 12 = nI pos → pos + n = L → s 27 5 = nI i → ((n + 2 ≤ fu ∧ n + 2 ≤ fu' ∧ i < pos) ∨ (1 ≤ fu ∧ 1 ≤ fu' ∧ (s 27 3 = 0 → s 27 6 = nI 0))) → w2 (T_tell_43 fu (nI i) s) (M_text_57 fu' (nI i) t) (PT b L s0 t)
  | n, i, 0, fu', pos, s, t, B, X, D, A, ep, hr, e5, hm => absurd hm (by omega)
  | n, i, fu + 1, 0, pos, s, t, B, X, D, A, ep, hr, e5, hm => absurd hm (by omega)
  | n, i, fu + 1, fu' + 1, pos, s, t, B, X, D, A, ep, hr, e5, hm => by
    have hL := B.l
    have fin : (s 27 3 = 0 → s 27 6 = nI 0) → T_tell_43 (fu + 1) (nI i) s = T_tell_88 s → M_text_57 (fu' + 1) (nI i) t = M_text_81 (nI i) t → w2 (T_tell_43 (fu + 1) (nI i) s) (M_text_57 (fu' + 1) (nI i) t) (PT b L s0 t) := fun h e1 e2 => by
      rw [e1, e2]
      exact K_88 B X D h e5
    have c88 : (¬ s 27 3 = 0 ∨ s 27 6 = 0) → T_tell_43 (fu + 1) (nI i) s = T_tell_88 s := fun h => by
      rw [T_tell_43]
      by_cases c : nI i < nI 160
      · rw [if_pos c]
        by_cases d : s 27 3 = 0
        · rw [if_pos d, if_pos (h.resolve_left (fun w => w d))]
        · rw [if_neg d]
      · rw [if_neg c]
    have X' := X
    rcases X with ⟨h3, p, hp, nb, C, e6, e7, e8⟩ | ⟨h3, h1, h4⟩
    · by_cases k0 : tkS b L p = nI 0
      · refine fin (fun _ => e6.trans k0) (c88 (Or.inr (e6.trans k0))) ?_
        rw [M_text_57, C.1, if_pos (by decide), C.2.2.2.1, if_pos (show tkS b L p = 0 from k0)]
      · have hm1 : n + 2 ≤ fu + 1 ∧ n + 2 ≤ fu' + 1 ∧ i < pos := by
          rcases hm with h | ⟨_, _, h⟩
          · exact h
          · exact absurd (e6.symm.trans (h h3)) k0
        obtain ⟨R, D0⟩ := D C.1
        obtain ⟨q, bb, rr, T⟩ := B.2.2.1
        have hE := tkE_le (b := b) hp
        have T' : TX t L pos 0 rr := T.at (by omega) ep C.1
        have epp : pos = tkE b L p := by
          have h := C.2.2.1
          rw [ep, nI_eq (by omega) (by omega)] at h
          exact h
        have F : FR t pos := ⟨stV b L p, by omega, C.2.1⟩
        rw [T_tell_43, if_pos ((nI_ltI (by omega) (by decide)).mpr (by omega)), if_pos h3, e6, if_neg (show ¬ tkS b L p = 0 from k0), M_text_57, C.1, if_pos (by decide), C.2.2.2.1, if_neg (show ¬ tkS b L p = 0 from k0)]
        have hV := V_readLine T' F
        obtain ⟨s1, t1, es, et, P⟩ := K_line B h3 X' D0 A
        rw [et] at hV
        obtain ⟨_, et', p', b', rr', T1, hprog, _⟩ := hV
        cases et'
        rw [es, et]
        refine w2sl (w2sl (w2sr ?_))
        rw [P.2.2.1, e5, nI_add]
        refine w2bl (K_tokA (P.1.u27 (k := 5) (v := nI (i + 1)) (by decide)) (P.2.1.us (by omega))) (fun s3 h => ?_)
        have hp1 := T1.p2
        refine (K_43 (L - p') (i + 1) fu fu' p' s3 t1 h.2.1 h.2.2 (fun z => ?_) (A.l P.2.2.2.2.2) T1.p (by omega) (by rw [h.1 27 5 (by omega), up_eq]) ?_).c (fun a c g => g.pre P.2.2.2.2.2)
        · obtain ⟨R2, D2⟩ := P.2.2.2.2.1 z
          exact ⟨R2, (D2.eq ⟨up_k (by decide), up_k (by decide)⟩ (fun q h1 h2 => up_off (by omega)) rfl (fun _ _ _ => rfl) rfl : DR (up s1 27 5 (nI (i + 1))) t1 R2).k h.1 offK.rf⟩
        · rcases h.2.2 with ⟨g3, p3, _, _, C3, g6, _⟩ | ⟨g3, _⟩
          · have hb : b' = 0 := by
              have z := T1.b
              have z2 := T1.b2
              rw [C3.1, nI_eq (by omega) (by omega)] at z
              exact z.symm
            rcases (hprog hb).2 with z | z
            · exact Or.inr ⟨by omega, by omega, fun _ => g6.trans (C3.2.2.2.1.symm.trans z)⟩
            · exact Or.inl ⟨by omega, by omega, by omega⟩
          · exact Or.inr ⟨by omega, by omega, fun z => absurd z g3⟩
    · refine fin (fun z => absurd z h3) (c88 (Or.inl h3)) ?_
      rw [M_text_57, if_neg h1]
/-! the empty house, number by number -/
theorem E_68 {q : Nat} : ∀ (n r fu : Nat) (s : sg), (∀ i, i < r → s (q + 7) i = nI 10) → r + n = 8 → n < fu → wp (H_empty_68 q fu (nI r) s) (fun s' => (∀ p, p ≠ q + 7 → s' p = s p) ∧ ∀ i, i < 8 → s' (q + 7) i = nI 10)
  | n, r, 0, s, h, hr, hf => absurd hf (by omega)
  | n, r, fu + 1, s, h, hr, hf => by
    rw [H_empty_68]
    refine wi (fun c => ?_) (fun c => ?_)
    · have hc := (nI_ltI (by omega) (by decide)).mp c
      refine wm rfl (by omega) (by decide) (wsb ?_)
      rw [nI_add]
      refine wc (E_68 (n - 1) (r + 1) fu _ (fun i hi => ?_) (by omega) (by omega)) (fun a g => ⟨fun p hp => (g.1 p hp).trans (up_off hp), g.2⟩)
      by_cases z : i = r
      · rw [z, up_eq]
      · rw [up_k z]; exact h i (by omega)
    · have hc : ¬ r < 8 := fun z => c ((nI_ltI (by omega) (by decide)).mpr z)
      exact ws ⟨fun _ _ => rfl, fun i hi => h i (by omega)⟩
theorem E_48 {q : Nat} : ∀ (n r fu : Nat) (s : sg), (∀ i, i < r → s (q + 6) i = nI 2) → r + n = 5 → n < fu → wp (H_empty_48 q fu (nI r) s) (fun s' => (∀ p, p ≠ q + 7 → p ≠ q + 6 → s' p = s p) ∧ (∀ i, i < 5 → s' (q + 6) i = nI 2) ∧ ∀ i, i < 8 → s' (q + 7) i = nI 10)
  | n, r, 0, s, h, hr, hf => absurd hf (by omega)
  | n, r, fu + 1, s, h, hr, hf => by
    rw [H_empty_48]
    refine wi (fun c => ?_) (fun c => ?_)
    · have hc := (nI_ltI (by omega) (by decide)).mp c
      refine wm rfl (by omega) (by decide) (wsb ?_)
      rw [nI_add]
      refine wc (E_48 (n - 1) (r + 1) fu _ (fun i hi => ?_) (by omega) (by omega)) (fun a g => ⟨fun p hp hp2 => (g.1 p hp hp2).trans (up_off hp2), g.2⟩)
      by_cases z : i = r
      · rw [z, up_eq]
      · rw [up_k z]; exact h i (by omega)
    · have hc : ¬ r < 5 := fun z => c ((nI_ltI (by omega) (by decide)).mpr z)
      refine wc (E_68 8 0 FU s (fun i hi => absurd hi (by omega)) (by omega) (by decide)) (fun a g => ⟨fun p hp _ => g.1 p hp, fun i hi => ?_, g.2⟩)
      rw [g.1 (q + 6) (by omega)]; exact h i (by omega)
theorem E_27 {q : Nat} : ∀ (n r fu : Nat) (s : sg), (∀ i, i < r → s (q + 4) i = -1) → r + n = 6 → n < fu → wp (H_empty_27 q fu (nI r) s) (fun s' => (∀ p, p ≠ q + 7 → p ≠ q + 6 → p ≠ q + 4 → s' p = s p) ∧ (∀ i, i < 6 → s' (q + 4) i = -1) ∧ (∀ i, i < 5 → s' (q + 6) i = nI 2) ∧ ∀ i, i < 8 → s' (q + 7) i = nI 10)
  | n, r, 0, s, h, hr, hf => absurd hf (by omega)
  | n, r, fu + 1, s, h, hr, hf => by
    rw [H_empty_27]
    refine wi (fun c => ?_) (fun c => ?_)
    · have hc := (nI_ltI (by omega) (by decide)).mp c
      refine wm rfl (by omega) (by decide) (wsb ?_)
      rw [nI_add]
      refine wc (E_27 (n - 1) (r + 1) fu _ (fun i hi => ?_) (by omega) (by omega)) (fun a g => ⟨fun p hp hp2 hp3 => (g.1 p hp hp2 hp3).trans (up_off hp3), g.2⟩)
      by_cases z : i = r
      · rw [z, up_eq]
      · rw [up_k z]; exact h i (by omega)
    · have hc : ¬ r < 6 := fun z => c ((nI_ltI (by omega) (by decide)).mpr z)
      refine wc (E_48 5 0 FU s (fun i hi => absurd hi (by omega)) (by omega) (by decide)) (fun a g => ⟨fun p hp hp2 _ => g.1 p hp hp2, fun i hi => ?_, g.2⟩)
      rw [g.1 (q + 4) (by omega) (by omega)]; exact h i (by omega)
theorem E_empty {q : Nat} : wp (H_empty q s) (fun s' => offH q s s' ∧ (∀ k, k < 5 → s' q k = nI 0) ∧ (∀ i, i < 6 → s' (q + 4) i = -1) ∧ (∀ i, i < 5 → s' (q + 6) i = nI 2) ∧ ∀ i, i < 8 → s' (q + 7) i = nI 10) := by
  unfold H_empty
  refine wsb (wsb (wsb (wsb (wsb ?_))))
  refine wc (E_27 6 0 FU _ (fun i hi => absurd hi (by omega)) (by omega) (by decide)) (fun s' g => ⟨fun p hp => ?_, fun k hk => ?_, g.2⟩)
  · rw [g.1 p (by omega) (by omega) (by omega), up_off (by omega), up_off (by omega), up_off (by omega), up_off (by omega), up_off (by omega)]
  · rw [g.1 q (by omega) (by omega) (by omega)]
    have hk' : k = 0 ∨ k = 1 ∨ k = 2 ∨ k = 3 ∨ k = 4 := by omega
    rcases hk' with rfl | rfl | rfl | rfl | rfl
    · rw [up_k (by decide), up_k (by decide), up_k (by decide), up_k (by decide), up_eq]
    · rw [up_k (by decide), up_k (by decide), up_k (by decide), up_eq]
    · rw [up_k (by decide), up_k (by decide), up_eq]
    · rw [up_k (by decide), up_eq]
    · rw [up_eq]
theorem tok_pos {p : Nat} (h : ¬ tkS b L p = nI 0) (nb : ¬ badT b L p) (hp : p ≤ L) : stV b L p < tkE b L p := by
  have h1 := tkS_lt h
  have hle := stV_le (b := b) hp
  have h4 : tkS b L p = nI 1 ∨ tkS b L p = nI 2 ∨ tkS b L p = nI 3 := by
    have h5 : ¬ tkS b L p = nI 4 := fun w => nb (Or.inl w)
    unfold tkS at h5 ⊢
    rw [if_pos h1] at h5 ⊢
    unfold srV at h5 ⊢
    by_cases c1 : ¬ b (stV b L p) < nI 97 ∧ ¬ nI 122 < b (stV b L p)
    · rw [if_pos c1]; exact Or.inl rfl
    · rw [if_neg c1] at h5 ⊢
      by_cases c2 : ¬ b (stV b L p) < nI 48 ∧ ¬ nI 57 < b (stV b L p)
      · rw [if_pos c2]; exact Or.inr (Or.inl rfl)
      · rw [if_neg c2] at h5 ⊢
        by_cases c3 : b (stV b L p) = nI 59
        · rw [if_pos c3]; exact Or.inr (Or.inr rfl)
        · rw [if_neg c3] at h5; exact absurd rfl h5
  have run : ∀ k : Int32, tkS b L p = k → stV b L p < rnV b k (L - stV b L p) (stV b L p) := fun k hk => by
    obtain ⟨m, hm⟩ : ∃ m, L - stV b L p = m + 1 := ⟨L - stV b L p - 1, by omega⟩
    rw [hm, rnV]
    have e : srV (b (stV b L p)) = k := by
      rw [← hk]; unfold tkS; rw [if_pos h1]
    rw [if_pos e]
    have := rnV_le (b := b) (k := k) m (stV b L p + 1)
    omega
  unfold tkE
  rcases h4 with e | e | e
  · rw [if_pos (Or.inl e)]; exact run _ rfl
  · rw [if_pos (Or.inr e)]; exact run _ rfl
  · rw [if_neg (by rw [e]; decide), if_pos e]; omega
theorem Z_34 {T : sg} : ∀ (n q fu : Nat) (t : sg), (∀ k, k < q → t 12 k = nI 0) → (∀ p k, p ≠ 12 → t p k = T p k) → q + n = 52 → n < fu → ∃ t1, M_text_34 x1 fu (nI q) t = ((M_step t1).bind fun s1 => M_text_57 FU x1 s1) ∧ (∀ k, k < 52 → t1 12 k = nI 0) ∧ (∀ p k, p ≠ 12 → t1 p k = T p k)
  | n, q, 0, t, h, o, hr, hf => absurd hf (by omega)
  | n, q, fu + 1, t, h, o, hr, hf => by
    rw [M_text_34]
    by_cases c : q < 52
    · rw [if_pos ((nI_ltI (by omega) (by decide)).mpr c), midx_nI c (by decide)]
      have e : ((some q).bind fun j1 => (some (up t 12 j1 (nI 0))).bind fun s2 => M_text_34 x1 fu (nI q + nI 1) s2) = M_text_34 x1 fu (nI (q + 1)) (up t 12 q (nI 0)) := by rw [nI_add]; rfl
      rw [e]
      refine Z_34 (n - 1) (q + 1) fu _ (fun k hk => ?_) (fun p k hp => (up_p hp).trans (o p k hp)) (by omega) (by omega)
      by_cases z : k = q
      · rw [z, up_eq]
      · rw [up_k z]; exact h k (by omega)
    · rw [if_neg (fun z => c ((nI_ltI (by omega) (by decide)).mp z))]
      exact ⟨t, rfl, fun k hk => h k (by omega), o⟩
end TOLD
end Q80
section Q81
/-! text(), by both -/
section JTEXT
variable {s t s' t' : sg} {b : Nat → Int32} {L R : Nat} {x x1 y : Int32}
theorem sb {α β : Type} {a : α} {f : α → Option β} : (some a).bind f = f a := rfl
theorem DR.hr {g : Nat → Int32} (D : DR s t R) (hg : ∀ k, k < 52 → g k = t 12 k) : HR s 29 g R := by
  obtain ⟨d1, d2, d3, d4, d5, d6, d7, d8, d9, d10⟩ := D
  have h6 := d1.2.1
  refine ⟨h6, d1.1, ⟨0, Nat.two_pow_pos R, d8.1, fun r hr => ?_⟩, ?_, ⟨?_, 0, by decide, ?_⟩, ⟨?_, 0, by decide, ?_⟩, fun r hr => ?_, fun r hr => ?_, fun r hr => ?_, fun r hr => ?_, fun w hw => ?_, fun i hi => ?_⟩
  · rw [hg _ (by omega), d6 r (by omega), Nat.zero_div]
  · rw [hg _ (by omega), d7.1]; exact d8.2.1
  · rw [hg _ (by omega), d7.2.1]; exact d8.2.2.1
  · rw [hg _ (by omega)]; exact d7.2.1
  · rw [hg _ (by omega), d7.2.2]; exact d8.2.2.2
  · rw [hg _ (by omega)]; exact d7.2.2
  · rw [hg _ (by omega), Nat.zero_add]; exact (d2 r hr).1
  · rw [hg _ (by omega)]; exact (d2 r hr).2.1
  · rw [hg _ (by omega)]; exact (d2 r hr).2.2
  · rw [hg _ (by omega), hg _ (by omega)]; exact d3 r (by omega)
  · rw [hg _ (by omega)]; exact d4 w (by omega)
  · rw [hg _ (by omega)]; exact d5 i hi
theorem E_55 : ∀ (n r fu : Nat) (s : sg), (∀ i, i < r → s 20 i = nI 0) → r + n = 2 → n < fu → wp (C_text_55 fu (nI r) s) (fun v => v.1 = s 27 5 ∧ (∀ p, p ≠ 20 → v.2 p = s p) ∧ ∀ i, i < 2 → v.2 20 i = nI 0)
  | n, r, 0, s, h, hr, hf => absurd hf (by omega)
  | n, r, fu + 1, s, h, hr, hf => by
    rw [C_text_55]
    refine wi (fun c => ?_) (fun c => ?_)
    · have hc := (nI_ltI (by omega) (by decide)).mp c
      refine wm rfl (by omega) (by decide) (wsb ?_)
      rw [nI_add, show vp_nar .boolean (nI 0) = nI 0 by decide]
      refine wc (E_55 (n - 1) (r + 1) fu _ (fun i hi => ?_) (by omega) (by omega)) (fun a g => ⟨g.1.trans (up_p (by decide)), fun p hp => (g.2.1 p hp).trans (up_off hp), g.2.2⟩)
      by_cases z : i = r
      · rw [z, up_eq]
      · rw [up_k z]; exact h i (by omega)
    · have hc : ¬ r < 2 := fun z => c ((nI_ltI (by omega) (by decide)).mpr z)
      exact ws ⟨rfl, fun _ _ => rfl, fun i hi => h i (by omega)⟩
theorem J_tell (F : RF s t) (hL : L ≤ 160) (e1 : s 27 1 = nI L) (e2 : t 10 8 = nI L) (e3 : ∀ i, i < L → ∃ c : Nat, c < 128 ∧ s 28 i = nI c ∧ t 13 i = nI c) : ∃ t2, (∀ p k, p ≠ 10 → p ≠ 12 → t2 p k = t p k) ∧ (∀ k, k = 1 ∨ k = 22 ∨ k = 28 → t2 10 k = t 10 k) ∧ w2 (T_tell s) (M_text t) (PT (s 28) L s t2) := by
  obtain ⟨⟨R0, G⟩, I, M⟩ := F
  obtain ⟨s1, es1, o1, z1, z2, z3, z4⟩ := E_empty (s := s) (q := 29)
  have hs7 : ∃ s7, T_tell s = ((T_nextToken s7).bind fun s8 => T_tell_43 FU (nI 0) s8) ∧ (∀ p, p ≠ 27 → s7 p = s1 p) ∧ (∀ k, k ≠ 3 → k ≠ 4 → k ≠ 5 → k ≠ 8 → k ≠ 9 → k ≠ 10 → s7 27 k = s1 27 k) ∧ s7 27 3 = nI 0 ∧ s7 27 5 = nI 0 ∧ s7 27 8 = nI 0 ∧ s7 27 9 = nI 0 ∧ s7 27 10 = nI 0 := by
    refine ⟨up (up (up (up (up (up s1 27 3 (nI 0)) 27 4 (nI 0)) 27 5 (nI 0)) 27 8 (nI 0)) 27 9 (nI 0)) 27 10 (nI 0), ?_, fun p hp => ?_, fun k h1 h2 h3 h4 h5 h6 => ?_, ?_, ?_, ?_, ?_, ?_⟩
    · unfold T_tell
      rw [es1, sb, sb, sb, sb, sb, sb, sb]
    · rw [up_off hp, up_off hp, up_off hp, up_off hp, up_off hp, up_off hp]
    · rw [up_k h6, up_k h5, up_k h4, up_k h3, up_k h2, up_k h1]
    · rw [up_k (by decide), up_k (by decide), up_k (by decide), up_k (by decide), up_k (by decide), up_eq]
    · rw [up_k (by decide), up_k (by decide), up_k (by decide), up_eq]
    · rw [up_k (by decide), up_k (by decide), up_eq]
    · rw [up_k (by decide), up_eq]
    · rw [up_eq]
  obtain ⟨s7, eT, k1, k2, k3, k5, k8, k9, k10⟩ := hs7
  have b1 : s7 27 1 = nI L := by rw [k2 1 (by decide) (by decide) (by decide) (by decide) (by decide) (by decide), o1 27 (by omega)]; exact e1
  have b28 : ∀ i, i < L → s7 28 i = s 28 i := fun i _ => by rw [k1 28 (by decide), o1 28 (by omega)]
  obtain ⟨s8, e8, N, kC, CU8⟩ := wan (K_next (b := s 28) (p := 0) hL b1 b28 k8 (by omega)) (W_nextToken hL b1 k8 (by omega))
  have oL8 : offL s s8 := fun p hp => by
    have h1 : s8 p = s7 p := by funext k; exact kC p k (fun w => hp (Or.inl w.1))
    rw [h1, k1 p (fun w => hp (Or.inl w)), o1 p (by omega)]
  have hs29 : ∀ q, 29 ≤ q → s8 q = s1 q := fun q hq => by
    have h1 : s8 q = s7 q := by funext k; exact kC q k (by omega)
    rw [h1, k1 q (by omega)]
  have TQ8 : TQ s L s8 := by
    refine ⟨⟨(kC 27 1 (by omega)).trans b1, hL, ⟨0, ?_, by omega, ?_, fun r hr => ?_⟩, CU8⟩, oL8⟩
    · rw [hs29 29 (by omega)]; exact z1 0 (by decide)
    · rw [hs29 29 (by omega)]; exact z1 2 (by decide)
    · rw [hs29 (29 + 4) (by omega)]; exact Or.inl (z2 r hr)
  have hT : ∃ T1, M_text t = ((M_step T1).bind fun s1 => M_text_57 FU (nI 0) s1) ∧ (∀ k, k < 52 → T1 12 k = nI 0) ∧ (∀ p k, p ≠ 10 → p ≠ 12 → T1 p k = t p k) ∧ (∀ k, ¬ (k = 10 ∨ k = 12 ∨ (3 ≤ k ∧ k ≤ 6)) → T1 10 k = t 10 k) ∧ T1 10 10 = nI 0 ∧ T1 10 12 = nI 0 ∧ T1 10 3 = nI 0 ∧ T1 10 4 = nI 0 ∧ T1 10 5 = nI 0 ∧ T1 10 6 = -1 := by
    obtain ⟨T1, a1, a2, a3⟩ := Z_34 (x1 := nI 0) (T := up (up (up (up (up (up t 10 10 (nI 0)) 10 12 (nI 0)) 10 3 (nI 0)) 10 4 (nI 0)) 10 5 (nI 0)) 10 6 (-1)) 52 0 FU (up (up (up (up (up (up t 10 10 (nI 0)) 10 12 (nI 0)) 10 3 (nI 0)) 10 4 (nI 0)) 10 5 (nI 0)) 10 6 (-1)) (fun k hk => absurd hk (by omega)) (fun _ _ _ => rfl) (by decide) (by decide)
    refine ⟨T1, ?_, a2, fun p k h1 h2 => ?_, fun k hk => ?_, ?_, ?_, ?_, ?_, ?_, ?_⟩
    · unfold M_text
      rw [sb, sb, sb, sb, sb, sb]
      exact a1
    · rw [a3 p k h2, up_p h1, up_p h1, up_p h1, up_p h1, up_p h1, up_p h1]
    · rw [a3 10 k (by decide), up_k (by omega), up_k (by omega), up_k (by omega), up_k (by omega), up_k (by omega), up_k (by omega)]
    · rw [a3 10 10 (by decide), up_k (by decide), up_k (by decide), up_k (by decide), up_k (by decide), up_k (by decide), up_eq]
    · rw [a3 10 12 (by decide), up_k (by decide), up_k (by decide), up_k (by decide), up_k (by decide), up_eq]
    · rw [a3 10 3 (by decide), up_k (by decide), up_k (by decide), up_k (by decide), up_eq]
    · rw [a3 10 4 (by decide), up_k (by decide), up_k (by decide), up_eq]
    · rw [a3 10 5 (by decide), up_k (by decide), up_eq]
    · rw [a3 10 6 (by decide), up_eq]
  obtain ⟨T1, eM, t1, t2, t3, q10, q12, q3, q4, q5, q6⟩ := hT
  have X1 : TX T1 L 0 0 0 := ⟨(t3 8 (by omega)).trans e2, hL, q12, by omega, q10, by omega, q3, by omega, t1 49 (by decide), M.2.2.2.2.2.k (by funext k; exact t2 14 k (by decide) (by decide))⟩
  have B1 : TB (s 28) L T1 := fun i hi => by
    obtain ⟨c, h1, h2, h3⟩ := e3 i hi
    refine ⟨?_, c, h1, h2⟩
    rw [t2 13 i (by decide) (by decide), h3, h2]
  obtain ⟨T2, eS, RS2, p2, b2, X2, _⟩ := wan (R_step X1 B1) (V_step X1)
  have oK := RS2.1
  have BS8 : BS (s 28) L s s8 T2 := ⟨TQ8, fun i hi => (kC 28 i (by omega)).trans (b28 i hi), ⟨p2, b2, 0, X2⟩, B1.k oK⟩
  have D7 : DR s7 T1 0 := by
    have hs : ∀ q, 29 ≤ q → s7 q = s1 q := fun q hq => k1 q (by omega)
    refine ⟨⟨?_, by omega, q3⟩, fun r hr => absurd hr (by omega), fun r hr => ?_, fun w hw => ?_, fun i hi => ?_, fun r hr => t1 _ (by omega), ⟨t1 _ (by decide), t1 _ (by decide), t1 _ (by decide)⟩, ⟨?_, ?_, ?_, ?_⟩, ⟨0, 0, by decide, by decide, k10, q4, ?_, fun r hr h => ?_, fun w hw h => ?_, Or.inl rfl⟩, ?_⟩
    · rw [hs 29 (by omega)]; exact z1 0 (by decide)
    · rw [t1 _ (by omega), t1 _ (by omega), hs 33 (by omega)]
      exact ⟨⟨0, by decide, rfl, (z2 r hr).trans (by decide)⟩, ⟨0, by decide, rfl⟩, fun w => absurd w (by decide)⟩
    · rw [t1 _ (by omega), hs 35 (by omega)]; exact (z3 w hw).trans (by decide)
    · rw [t1 _ (by omega), hs 36 (by omega)]; exact (z4 i hi).trans (by decide)
    · rw [hs 29 (by omega)]; exact z1 1 (by decide)
    · rw [hs 29 (by omega)]; exact z1 2 (by decide)
    · rw [hs 29 (by omega)]; exact z1 3 (by decide)
    · rw [hs 29 (by omega)]; exact z1 4 (by decide)
    · rw [q6]; decide
    · rw [t1 _ (by omega)] at h; exact absurd h (by decide)
    · rw [Nat.zero_div] at h; exact absurd h (by decide)
    · rw [k9, q5]; exact ⟨rfl, Or.inl rfl⟩
  have D8 : DR s8 T2 0 := D7.k N.1 oK
  have XA8 : XA (s 28) L s8 T2 := by
    by_cases c : badT (s 28) L 0
    · have h1 := N.2.2.2.2.2 c k3
      have h2 := RS2.2.2 c
      exact Or.inr ⟨h1.1, h2.1, h1.2.trans h2.2.symm⟩
    · have h1 := N.2.2.2.2.1 c
      exact Or.inl ⟨h1.2 k3, 0, by omega, c, RS2.2.1 c, h1.1, N.2.1, N.2.2.1⟩
  refine ⟨T2, fun p k h1 h2 => ?_, fun k hk => ?_, ?_⟩
  · rw [oK p k (by omega)]; exact t2 p k h1 h2
  · rw [oK 10 k (by omega)]; exact t3 k (by omega)
  · rw [eT, eM, e8, eS]
    refine w2sl (w2sr ?_)
    have hp2 := X2.p2
    have A2 : LT T2 := G.lt.k (by funext k; rw [oK 14 k (by omega)]; exact t2 14 k (by decide) (by decide)) (by funext k; rw [oK 15 k (by omega)]; exact t2 15 k (by decide) (by decide))
    refine K_43 (L - p2) 0 FU FU p2 s8 T2 BS8 XA8 (fun _ => ⟨0, D8⟩) A2 X2.p (by omega) (by rw [kC 27 5 (by omega)]; exact k5) ?_
    have hFU : FU = 100000 := rfl
    rcases XA8 with ⟨_, p, hp, nb, C, e6, _, _⟩ | ⟨g3, _⟩
    · by_cases c : tkS (s 28) L p = nI 0
      · exact Or.inr ⟨by omega, by omega, fun _ => e6.trans c⟩
      · refine Or.inl ⟨by omega, by omega, ?_⟩
        have h1 := tok_pos c nb hp
        have hE := tkE_le (b := s 28) hp
        have h2 := X2.p
        rw [C.2.2.1, nI_eq (by omega) (by omega)] at h2
        omega
    · exact Or.inr ⟨by omega, by omega, fun z => absurd z g3⟩
theorem J_text (F : RF s t) : w2 (C_text s) (M_text t) JF := by
  have F' := F
  obtain ⟨⟨R0, G⟩, I, M⟩ := F
  refine J.fin ?_ (W_C_text I) (fun _ h => h.1) (V_M_textI M) (fun _ h => h.1)
  obtain ⟨L, hL, e1, e2, e3⟩ := G.tp
  obtain ⟨t2, o2, k2, a, c, ea, ec, P⟩ := J_tell F' hL e1 e2 e3
  unfold C_text
  rw [ea, ec]
  refine w2sl (w2sl ?_)
  obtain ⟨oL, e8, h⟩ := P
  rcases h with ⟨a0, c0, oX⟩ | ⟨a1, c1, R, T, D, oT, sc⟩
  · rw [a0, if_pos (by decide)]
    refine w2s ⟨?_, R0, ?_⟩
    · show -10 - (up a.2 27 1 (nI 0)) 27 4 = c.1
      rw [up_k (by decide), c0]
    · have oS : ∀ p, p ≠ 27 → ¬ (29 ≤ p ∧ p ≤ 36) → (up a.2 27 1 (nI 0)) p = s p := fun p h1 h2 => by
        rw [up_off h1]; exact oL p (by omega)
      have oC : ∀ p, p ≠ 10 → p ≠ 12 → c.2 p = t p := fun p h1 h2 => by
        funext k
        rw [oX p k (by omega) h2]; exact o2 p k h1 h2
      have oO : ∀ k, k = 1 ∨ k = 22 ∨ k = 28 → c.2 10 k = t 10 k := fun k hk => by
        rw [oX 10 k (by omega) (by decide)]; exact k2 k hk
      dsimp only
      refine ⟨(oO 1 (by omega)).trans G.r, ?_, ?_, ?_, ?_, ?_, ?_, ?_⟩
      · rw [pgE (oC 11 (by decide) (by decide))]
        exact G.h.off (fun p q1 q2 => oS p (by omega) (by omega))
      · exact G.kp.k (oS 20 (by omega) (by omega)) (fun p _ _ => oS p (by omega) (by omega)) (oC 19 (by decide) (by decide)) (fun k _ _ => by rw [oC 11 (by decide) (by decide)])
      · exact ⟨0, by omega, up_eq, e8, fun i hi => absurd hi (by omega)⟩
      · exact G.fe.k (oS 23 (by omega) (by omega)) (oS 24 (by omega) (by omega)) (oS 25 (by omega) (by omega)) (oS 26 (by omega) (by omega)) (oO 22 (by omega)) (oC 17 (by decide) (by decide))
      · exact G.sh.k (fun p _ _ => oS p (by omega) (by omega)) (oC 20 (by decide) (by decide)) (oC 21 (by decide) (by decide)) (oC 22 (by decide) (by decide))
      · rw [oS 10 (by omega) (by omega), oO 28 (by omega)]; exact G.tn
      · exact G.lt.k (oC 14 (by decide) (by decide)) (oC 15 (by decide) (by decide))
  · rw [a1, if_neg (by decide), copyFrom_eq (show dj 11 29 from Or.inl (by decide))]
    refine w2sl (w2sl ?_)
    obtain ⟨v, ev, v1, v2, v3⟩ := E_55 2 0 FU (up (cpH (up a.2 27 1 (nI 0)) 11 29) 23 3 (nI 0)) (fun i hi => absurd hi (by omega)) (by decide) (by decide)
    refine ⟨v, c, ev, rfl, ?_, R, ?_⟩
    · rw [v1, up_p (by decide), congrFun (cpH_off 27 (by omega)) 5, up_k (by decide)]
      exact c1.symm
    · have oS : ∀ p, p ≠ 27 → ¬ (29 ≤ p ∧ p ≤ 36) → p ≠ 20 → p ≠ 23 → ¬ (11 ≤ p ∧ p ≤ 18) → v.2 p = s p := fun p h1 h2 h3 h4 h5 => by
        rw [v2 p h3, up_off h4, cpH_off p (by omega), up_off h1]; exact oL p (by omega)
      have oC : ∀ p, p ≠ 10 → p ≠ 12 → p ≠ 11 → p ≠ 19 → c.2 p = t p := fun p h1 h2 h3 h4 => by
        funext k
        rw [sc.2.2.2.2.2 p k (by omega) (by omega) h4, oT p k (by omega) h2]; exact o2 p k h1 h2
      refine ⟨?_, ?_, fun k hk => Or.inl ⟨v3 k hk, ?_⟩, ?_, ?_, ?_, ?_, ?_⟩
      · rw [sc.2.1]; exact D.1.2.2
      · have H1 : HR a.2 29 (pg c.2 0) R := D.hr (fun k hk => by rw [pg0]; exact sc.1 k hk)
        have H2 : HR (up a.2 27 1 (nI 0)) 29 (pg c.2 0) R := H1.off (fun p q1 q2 => up_off (by omega))
        exact (H2.copy (b := 11)).off (fun p q1 q2 => by rw [v2 p (by omega), up_off (by omega)])
      · have hk' : k = 0 ∨ k = 1 := by omega
        rcases hk' with rfl | rfl
        · exact sc.2.2.2.1
        · exact sc.2.2.2.2.1
      · refine ⟨0, by omega, ?_, e8, fun i hi => absurd hi (by omega)⟩
        rw [v2 27 (by decide), up_p (by decide), congrFun (cpH_off 27 (by omega)) 1, up_eq]
      · refine ⟨0, by omega, ?_, sc.2.2.1, fun i hi => absurd hi (by omega)⟩
        rw [v2 23 (by decide), up_eq]
      · exact G.sh.k (fun p _ _ => oS p (by omega) (by omega) (by omega) (by omega) (by omega)) (oC 20 (by decide) (by decide) (by decide) (by decide)) (oC 21 (by decide) (by decide) (by decide) (by decide)) (oC 22 (by decide) (by decide) (by decide) (by decide))
      · rw [oS 10 (by omega) (by omega) (by omega) (by omega) (by omega), sc.2.2.2.2.2 10 28 (by omega) (by omega) (by decide), oT 10 28 (by omega) (by decide), k2 28 (by omega)]; exact G.tn
      · exact G.lt.k (oC 14 (by decide) (by decide) (by decide) (by decide)) (oC 15 (by decide) (by decide) (by decide) (by decide))
end JTEXT
end Q81
section Q82
/-! plain answers, by both -/
def smN (f : Nat → Int32) : Nat → Nat → Int32 → Int32
  | 0, _, a => a
  | n + 1, r, a => smN f n (r + 1) (a + f r)
theorem smN_e {f g : Nat → Int32} : ∀ (n r : Nat) (a : Int32), (∀ i, r ≤ i → i < r + n → f i = g i) → smN f n r a = smN g n r a
  | 0, r, a, h => rfl
  | n + 1, r, a, h => by
    rw [smN, smN, h r (Nat.le_refl _) (by omega)]
    exact smN_e n (r + 1) _ (fun i h1 h2 => h i (by omega) (by omega))
section PLAIN2
variable {s t : sg} {b R p : Nat} {g : Nat → Int32} {x x1 x2 x3 x4 : Int32}
theorem X_sum {K m : Nat} (hK : K ≤ m) (hm : m < 1000) : ∀ (n r fu : Nat) (a : Int32), r + n = K → n < fu → C_sumOf_4 p m (nI K) s fu a (nI r) = some (smN (s p) n r a)
  | n, r, 0, a, hr, hf => absurd hf (by omega)
  | n, r, fu + 1, a, hr, hf => by
    rw [C_sumOf_4]
    by_cases c : r < K
    · obtain ⟨n, rfl⟩ : ∃ k, n = k + 1 := ⟨n - 1, by omega⟩
      rw [if_pos ((nI_ltI (by omega) (by omega)).mpr c), if_pos ((nI_ltI (by omega) (by omega)).mpr (by omega)), midx_nI (by omega) (by omega)]
      show C_sumOf_4 p m (nI K) s fu (a + s p r) (nI r + nI 1) = _
      rw [nI_add, smN]
      exact X_sum hK hm n (r + 1) fu _ (by omega) (by omega)
    · obtain rfl : n = 0 := by omega
      rw [if_neg (fun z => c ((nI_ltI (by omega) (by omega)).mp z))]; rfl
theorem X_sumOf {K m : Nat} (hK : K ≤ m) (hm : m < 1000) : C_sumOf p m (nI K) s = some (smN (s p) K 0 (nI 0)) := by
  unfold C_sumOf
  exact X_sum hK hm K 0 FU _ (by omega) (by show K < 100000; omega)
theorem Y_warm (e : t 10 1 = nI R) (hR : R ≤ 6) (hp : p + 52 ≤ 312) : ∀ (n r fu : Nat) (a : Int32), r + n = R → n < fu → M_warmthOn_4 (nI p) t fu a (nI r) = some (smN (pg t p) n r a)
  | n, r, 0, a, hr, hf => absurd hf (by omega)
  | n, r, fu + 1, a, hr, hf => by
    rw [M_warmthOn_4, e]
    by_cases c : r < R
    · obtain ⟨n, rfl⟩ : ∃ k, n = k + 1 := ⟨n - 1, by omega⟩
      rw [if_pos ((nI_ltI (by omega) (by omega)).mpr c), nI_add, midx_nI (by omega) (by decide), nI_add]
      exact Y_warm e hR hp n (r + 1) fu _ (by omega) (by omega)
    · obtain rfl : n = 0 := by omega
      rw [if_neg (fun z => c ((nI_ltI (by omega) (by omega)).mp z))]; rfl
theorem Y_warmthOn (e : t 10 1 = nI R) (hR : R ≤ 6) (hp : p + 52 ≤ 312) : M_warmthOn (nI p) t = some (smN (pg t p) R 0 (nI 0)) := by
  unfold M_warmthOn
  exact Y_warm e hR hp R 0 FU _ (by omega) (by show R < 100000; omega)
theorem warm_eq (H : HR s b g R) : H_warmthOfAll b s = some (smN g R 0 (nI 0)) := by
  have h6 := H.r6
  unfold H_warmthOfAll
  rw [H.rm, X_sumOf h6 (by decide)]
  show some _ = some _
  rw [smN_e R 0 (nI 0) (fun i _ h2 => H.w (by omega))]
theorem or_b : ∀ m : Nat, m < 64 → ∀ r : Nat, r < 6 → (nI (m % 2 ^ r) ||| (nI (m / 2 ^ r % 2) <<< (nI r &&& 31))) = nI (m % 2 ^ (r + 1)) := by decide +kernel
theorem Y_on {m : Nat} (e : t 10 1 = nI R) (hR : R ≤ 6) (hp : p + 52 ≤ 312) (hm : m < 64) (hb : ∀ r, r < R → pg t p (30 + r) = nI (m / 2 ^ r % 2)) : ∀ (n r fu : Nat), r + n = R → n < fu → M_onOn_4 (nI p) t fu (nI (m % 2 ^ r)) (nI r) = some (nI (m % 2 ^ R))
  | n, r, 0, hr, hf => absurd hf (by omega)
  | n, r, fu + 1, hr, hf => by
    rw [M_onOn_4, e]
    by_cases c : r < R
    · obtain ⟨n, rfl⟩ : ∃ k, n = k + 1 := ⟨n - 1, by omega⟩
      rw [if_pos ((nI_ltI (by omega) (by omega)).mpr c), ix3, midx_nI (by omega) (by decide), nI_add]
      show M_onOn_4 (nI p) t fu (nI (m % 2 ^ r) ||| (pg t p (30 + r) <<< (nI r &&& 31))) (nI (r + 1)) = _
      rw [hb r c, or_b m hm r (by omega)]
      exact Y_on e hR hp hm hb n (r + 1) fu (by omega) (by omega)
    · obtain rfl : n = 0 := by omega
      obtain rfl : r = R := by omega
      rw [if_neg (fun z => c ((nI_ltI (by omega) (by omega)).mp z))]
theorem onOn_eq (H : HR s b (pg t p) R) (e : t 10 1 = nI R) (hp : p + 52 ≤ 312) : M_onOn (nI p) t = some (s b 1) := by
  have h6 := H.r6
  obtain ⟨m, h1, h2, h3⟩ := H.on
  have hm := p64 h6 h1
  unfold M_onOn
  have h := Y_on (t := t) (p := p) e h6 hp hm h3 R 0 FU (by omega) (by show R < 100000; omega)
  rw [show m % 2 ^ 0 = 0 by rw [Nat.pow_zero, Nat.mod_one], Nat.mod_eq_of_lt h1] at h
  rw [h2]; exact h
def JE (u w : Int32) : Prop := u = w
theorem J_rule (F : RF s t) : w2 (C_rule x1 s) (M_rule x1 t) (fun u w => u = w) := by
  obtain ⟨⟨R, G⟩, I, M⟩ := F
  have H := G.h
  have h6 := H.r6
  obtain ⟨R', h, hh, Hs⟩ := I.1
  have e9 := G.hh Hs
  unfold C_rule M_rule
  refine w2i (fun _ => w2s (H.rm.trans G.r.symm)) (fun _ => w2i (fun _ => ?_) (fun _ => w2i (fun _ => ?_) (fun _ => w2i (fun _ => ?_) (fun _ => w2i (fun _ => ?_) (fun _ => w2i (fun _ => ?_) (fun _ => w2i (fun _ => ?_) (fun _ => w2s rfl)))))))
  · refine w2r rfl (by decide) (by decide) (w2s ?_)
    rw [H.hr, pg0]
  · refine w2r rfl (by decide) (by decide) (w2s ?_)
    rw [H.bu.1, pg0]
  · refine w2r rfl (by decide) (by decide) (w2s ?_)
    rw [H.sw.1, pg0]
  · rw [warm_eq H, Y_warmthOn G.r h6 (by decide)]
    exact w2s rfl
  · rw [onOn_eq H G.r (by decide)]
    exact w2s rfl
  · rw [skyNow_eq H e9 (by omega), outOn_eq (by decide) e9 (by omega)]
    exact w2s rfl
theorem J_room (F : RF s t) : w2 (C_room x1 x2 s) (M_room x1 x2 t) (fun u w => u = w) := by
  obtain ⟨⟨R, G⟩, I, M⟩ := F
  have H := G.h
  have h6 := H.r6
  unfold C_room M_room
  refine w2P (hasRoom_P H.rm) (isRoom_P G.r h6) (fun _ => w2s rfl) (fun c1 => ?_)
  obtain ⟨j, hj, rfl⟩ := room_j h6 c1
  refine w2P within_eq (inP (by decide) (by decide)) (fun _ => w2s rfl) (fun c2 => ?_)
  obtain ⟨k, hk, rfl⟩ := in_j (by decide) c2
  have hk' : k = 0 ∨ k = 1 ∨ k = 2 ∨ k = 3 ∨ k = 4 ∨ k = 5 ∨ k = 6 ∨ k = 7 := by omega
  obtain ⟨⟨kk, hkk, t1, t2⟩, ⟨mc, hmc, t3⟩, t4⟩ := H.to j hj
  rcases hk' with rfl | rfl | rfl | rfl | rfl | rfl | rfl | rfl
  · rw [if_pos rfl, if_pos (by decide), pk_mul, nI_add]
    refine w2l rfl (by omega) (by decide) (w2r rfl (by omega) (by decide) (w2s ?_))
    rw [show 6 * 0 + j = j by omega, ← pg0 (t := t)]
    exact H.w hj
  · rw [if_neg (by decide), if_pos rfl, if_pos (by decide), pk_mul, nI_add]
    refine w2l rfl (by omega) (by decide) (w2r rfl (by omega) (by decide) (w2s ?_))
    rw [show 6 * 1 + j = 6 + j by omega, ← pg0 (t := t)]
    exact H.ls j hj
  · rw [if_neg (by decide), if_neg (by decide), if_pos rfl, if_pos (by decide), pk_mul, nI_add]
    refine w2l rfl (by omega) (by decide) (w2r rfl (by omega) (by decide) (w2s ?_))
    rw [show 6 * 2 + j = 12 + j by omega, ← pg0 (t := t)]
    exact H.br j hj
  · rw [if_neg (by decide), if_neg (by decide), if_neg (by decide), if_pos rfl, if_neg (by decide), if_neg (by decide)]
    refine w2P (hasTongue_eq H hj) (hasT_eq (by omega)) (fun _ => w2s rfl) (fun c4 => ?_)
    rw [if_pos rfl]
    unfold C_ofTongue
    rw [if_pos rfl, nI_add, midx_nI (by omega) (by decide), midx_nI (by omega) (by decide)]
    refine w2s ?_
    show s 15 j = t 11 (18 + j) - nI 1
    rw [← pg0 (t := t), t1]; exact t2
  · rw [if_neg (by decide), if_neg (by decide), if_neg (by decide), if_neg (by decide), if_pos rfl, if_neg (by decide), if_neg (by decide)]
    refine w2P (hasTongue_eq H hj) (hasT_eq (by omega)) (fun _ => w2s rfl) (fun c4 => ?_)
    rw [if_neg (by decide), if_pos rfl]
    unfold C_ofTongue
    rw [if_neg (by decide), if_pos rfl, nI_add, midx_nI (by omega) (by decide), midx_nI (by omega) (by decide)]
    refine w2s ?_
    show s 16 j = t 11 (24 + j)
    rw [← pg0 (t := t)]; exact t4 c4
  · rw [if_neg (by decide), if_neg (by decide), if_neg (by decide), if_neg (by decide), if_neg (by decide), if_pos rfl, if_neg (by decide), if_neg (by decide)]
    refine w2P (hasTongue_eq H hj) (hasT_eq (by omega)) (fun _ => w2s rfl) (fun c4 => ?_)
    rw [if_neg (by decide), if_neg (by decide), if_pos rfl]
    unfold C_ofTongue
    rw [if_neg (by decide), if_neg (by decide), if_pos rfl, lowOf_eq H hj c4, lowOn_eq (by decide) (by omega)]
    exact w2s rfl
  · rw [if_neg (by decide), if_neg (by decide), if_neg (by decide), if_neg (by decide), if_neg (by decide), if_neg (by decide), if_pos rfl, if_neg (by decide), if_neg (by decide)]
    refine w2P (hasTongue_eq H hj) (hasT_eq (by omega)) (fun _ => w2s rfl) (fun c4 => ?_)
    rw [if_neg (by decide), if_neg (by decide), if_neg (by decide)]
    unfold C_ofTongue
    rw [if_neg (by decide), if_neg (by decide), if_neg (by decide), highOf_eq H hj c4, highOn_eq (by decide) (by omega)]
    exact w2s rfl
  · rw [if_neg (by decide), if_neg (by decide), if_neg (by decide), if_neg (by decide), if_neg (by decide), if_neg (by decide), if_neg (by decide), if_pos rfl, if_neg (by decide), if_pos rfl, nI_add]
    refine w2r rfl (by omega) (by decide) ?_
    refine w2Pl (isOn_eq H hj) (fun d => w2s ?_) (fun d => w2s ?_)
    · rw [← pg0 (t := t)]
      exact ((H.bit hj).resolve_right d).symm
    · rw [← pg0 (t := t)]
      exact d.symm
theorem J_wall (F : RF s t) : w2 (C_wall x1 s) (M_wall x1 t) (fun u w => u = w) := by
  obtain ⟨⟨R, G⟩, I, M⟩ := F
  have H := G.h
  have h6 := H.r6
  unfold C_wall M_wall
  refine w2P (hasWall_P H.rm) (isWall_P G.r h6) (fun _ => w2s rfl) (fun c1 => ?_)
  obtain ⟨j, hj, rfl⟩ := wall_j h6 c1
  rw [nI_add]
  refine w2l rfl (by omega) (by decide) (w2r rfl (by omega) (by decide) (w2s ?_))
  rw [← pg0 (t := t)]
  exact H.wa j hj
theorem J_outside (F : RF s t) : w2 (C_outside x1 s) (M_outside x1 t) (fun u w => u = w) := by
  obtain ⟨⟨R, G⟩, I, M⟩ := F
  have H := G.h
  unfold C_outside M_outside
  refine w2P within_eq (inP (by decide) (by decide)) (fun _ => w2s rfl) (fun c1 => ?_)
  obtain ⟨j, hj, rfl⟩ := in_j (by decide) c1
  rw [nI_add]
  refine w2l rfl (by omega) (by decide) (w2r rfl (by omega) (by decide) (w2s ?_))
  rw [← pg0 (t := t)]
  exact H.ou j (by omega)
theorem J_torn (F : RF s t) : w2 (C_torn s) (M_torn t) (fun u w => u = w) := by
  obtain ⟨⟨R, G⟩, I, M⟩ := F
  exact w2s G.tn
theorem Y_c38 (e : t 10 1 = nI R) (hR : R ≤ 6) : ∀ (n r fu : Nat) (a : Int32), r + n = R → n < fu → M_count_38 x1 x2 t fu a (nI r) = M_count_38 x1 x2 t (fu - n + 1) (smN (fun i => t 11 (36 + i) + nI 2) (R - 1 - r) r a) (nI R)
  | n, r, 0, a, hr, hf => absurd hf (by omega)
  | n, r, fu + 1, a, hr, hf => by
    have e0 : ∀ (f : Nat) (a' : Int32) (q : Nat), q ≤ R → ¬ q + 1 < R → M_count_38 x1 x2 t (f + 1) a' (nI q) = M_count_38 x1 x2 t (fu + 1 - n + 1) a' (nI R) := fun f a' q hq h => by
      have h1 : ¬ nI q < nI R - nI 1 := fun z => h ((nI_m1 (by omega) (by omega)).mp z)
      have h2 : ¬ nI R < nI R - nI 1 := fun z => by have := (nI_m1 (n := R) (j := R) (by omega) (by omega)).mp z; omega
      rw [M_count_38, M_count_38, e, if_neg h1, if_neg h2]
    by_cases c : r + 1 < R
    · obtain ⟨n, rfl⟩ : ∃ k, n = k + 1 := ⟨n - 1, by omega⟩
      rw [M_count_38, e, if_pos ((nI_m1 (by omega) (by omega)).mpr c), nI_add, midx_nI (by omega) (by decide), nI_add]
      show M_count_38 x1 x2 t fu (a + (t 11 (36 + r) + nI 2)) (nI (r + 1)) = _
      rw [Y_c38 e hR n (r + 1) fu _ (by omega) (by omega), show R - 1 - r = (R - 1 - (r + 1)) + 1 by omega, smN, show fu + 1 - (n + 1) + 1 = fu - n + 1 by omega]
    · rw [show R - 1 - r = 0 by omega, smN]
      exact e0 fu a r (by omega) c
theorem Y_c7 (e : t 10 1 = nI R) (hR : R ≤ 6) : ∀ (n r fu : Nat) (a : Int32), r + n = R → n < fu → M_count_7 x1 x3 t fu a (nI r) = M_count_38 x1 (smN (fun i => t 11 (6 + i)) n r a) t FU x3 (nI 0)
  | n, r, 0, a, hr, hf => absurd hf (by omega)
  | n, r, fu + 1, a, hr, hf => by
    rw [M_count_7, e]
    by_cases c : r < R
    · obtain ⟨n, rfl⟩ : ∃ k, n = k + 1 := ⟨n - 1, by omega⟩
      rw [if_pos ((nI_ltI (by omega) (by omega)).mpr c), nI_add, midx_nI (by omega) (by decide), nI_add]
      exact Y_c7 e hR n (r + 1) fu _ (by omega) (by omega)
    · obtain rfl : n = 0 := by omega
      rw [if_neg (fun z => c ((nI_ltI (by omega) (by omega)).mp z))]; rfl
theorem X_sum0 {m : Nat} : C_sumOf p (m + 1) (nI 0 - nI 1) s = some (nI 0) := by
  unfold C_sumOf
  show C_sumOf_4 p (m + 1) (nI 0 - nI 1) s (99999 + 1) (nI 0) (nI 0) = _
  rw [C_sumOf_4, if_neg (by decide)]
theorem J_count (F : RF s t) : w2 (C_count x1 s) (M_count x1 t) (fun u w => u = w) := by
  obtain ⟨⟨R, G⟩, I, M⟩ := F
  have H := G.h
  have h6 := H.r6
  obtain ⟨m, hm, f1, f2, _⟩ := G.fe
  obtain ⟨L, hL, g1, g2, _⟩ := G.tp
  unfold M_count
  have h2 : ¬ nI R < nI R - nI 1 := fun z => by have := (nI_m1 (n := R) (j := R) (by omega) (by omega)).mp z; omega
  rw [Y_c7 G.r h6 R 0 FU _ (by omega) (by show R < 100000; omega), Y_c38 G.r h6 R 0 FU _ (by omega) (by show R < 100000; omega), M_count_38, G.r, if_neg h2]
  unfold C_count
  refine w2i (fun _ => w2s (by rw [f1, f2])) (fun _ => w2i (fun _ => ?_) (fun _ => w2i (fun _ => w2s (by rw [g1, g2])) (fun _ => w2i (fun _ => ?_) (fun _ => w2i (fun _ => ?_) (fun _ => w2i (fun _ => ?_) (fun _ => w2s rfl))))))
  · refine w2l rfl (by decide) (by decide) (w2r rfl (by decide) (by decide) ?_)
    have tail : ∀ y : Int32, w2 (C_count_62 y s) (M_count_127 y t) (fun u w => u = w) := fun y => by
      unfold C_count_62 M_count_127
      refine w2l rfl (by decide) (by decide) (w2r rfl (by decide) (by decide) ?_)
      rcases G.kp 1 (by decide) with ⟨q1, q2⟩ | ⟨q1, q2, _⟩
      · rw [q1, q2, if_pos (show nI 0 = 0 from rfl)]; exact w2s rfl
      · rw [q1, q2, if_neg (show ¬ nI 1 = 0 by decide)]; exact w2s rfl
    rcases G.kp 0 (by decide) with ⟨q1, q2⟩ | ⟨q1, q2, _⟩
    · rw [q1, q2, if_pos (by decide), if_pos (by decide)]; exact tail _
    · rw [q1, q2, if_neg (by decide), if_neg (by decide)]; exact tail _
  · obtain ⟨z1, n, n1, n2, n3, _⟩ := G.sh 0 (by decide)
    refine w2r rfl (by decide) (by decide) ?_
    unfold S_isThere
    rcases z1 with ⟨q1, q2⟩ | ⟨l, hl, q1, q2⟩
    · rw [show s 133 0 = -1 from q1, q2, if_pos rfl, if_pos rfl]
      exact w2s rfl
    · have l1 : ¬ nI l = -1 := by
        have hl' : l = 0 ∨ l = 1 ∨ l = 2 := by omega
        rcases hl' with rfl | rfl | rfl <;> decide
      have l4 : ¬ nI l = -4 := by
        have hl' : l = 0 ∨ l = 1 ∨ l = 2 := by omega
        rcases hl' with rfl | rfl | rfl <;> decide
      rw [show s 133 0 = nI l from q1, q2, if_neg l1, if_neg l4]
      refine w2r rfl (by decide) (by decide) (w2s ?_)
      exact n2.trans n3.symm
  · rw [H.rm, X_sumOf h6 (by decide)]
    refine w2s ?_
    exact smN_e R 0 (nI 0) (fun i _ h2 => by rw [← pg0 (t := t)]; exact H.ls i (by omega))
  · rw [H.rm]
    by_cases c : R = 0
    · subst c
      rw [X_sum0]
      exact w2s rfl
    · rw [pk_sub (by omega), X_sumOf (by omega) (by decide)]
      refine w2s ?_
      exact smN_e (R - 1) 0 (nI 0) (fun i _ h2 => by rw [← pg0 (t := t)]; exact H.wa i (by omega))
end PLAIN2
end Q82
section Q84
/-! questions: hours that run ahead, by both -/
def clN (f : Nat → Int32) : Nat → Nat → Int32 → Int32
  | 0, _, a => a
  | n + 1, r, a => clN f n (r + 1) (if f r < a then f r else a)
def coldM (R : Nat) (g : Nat → Int32) : Int32 := if R = 0 then -4 else clN g R 0 (nI 99)
def mnV (R : Nat) : Nat → (Nat → Int32) → Int32 → Int32
  | 0, _, a => a
  | n + 1, g, a => mnV R n (nextV R g) (if coldM R (nextV R g) < a then coldM R (nextV R g) else a)
theorem clN_e {f g : Nat → Int32} : ∀ (n r : Nat) (a : Int32), (∀ i, r ≤ i → i < r + n → f i = g i) → clN f n r a = clN g n r a
  | 0, r, a, h => rfl
  | n + 1, r, a, h => by
    rw [clN, clN, h r (Nat.le_refl _) (by omega)]
    exact clN_e n (r + 1) _ (fun i h1 h2 => h i (by omega) (by omega))
section RUNS
variable {s t t0' : sg} {b R p : Nat} {g : Nat → Int32} {x x1 x2 x3 x4 : Int32}
theorem X_cold5 (H : HR s b g R) : ∀ (n r fu : Nat) (a : Int32), r + n = R → n < fu → H_coldestNow_5 b s fu a (nI r) = some (clN g n r a)
  | n, r, 0, a, hr, hf => absurd hf (by omega)
  | n, r, fu + 1, a, hr, hf => by
    have h6 := H.r6
    rw [H_coldestNow_5, H.rm]
    by_cases c : r < R
    · obtain ⟨n, rfl⟩ : ∃ k, n = k + 1 := ⟨n - 1, by omega⟩
      rw [if_pos ((nI_ltI (by omega) (by omega)).mpr c), midx_nI (by omega) (by decide)]
      show H_coldestNow_5 b s fu (if s (b + 1) r < a then s (b + 1) r else a) (nI r + nI 1) = _
      rw [H.w c, nI_add, clN]
      exact X_cold5 H n (r + 1) fu _ (by omega) (by omega)
    · obtain rfl : n = 0 := by omega
      rw [if_neg (fun z => c ((nI_ltI (by omega) (by omega)).mp z))]; rfl
theorem X_coldest (H : HR s b g R) : H_coldestNow b s = some (clN g R 0 (nI 99)) := by
  unfold H_coldestNow
  exact X_cold5 H R 0 FU _ (by omega) (by have := H.r6; show R < 100000; omega)
theorem Y_cold17 (e : t 10 1 = nI R) (hR : R ≤ 6) (hp : p + 52 ≤ 312) : ∀ (n r fu : Nat) (a : Int32), r + n = R → n < fu → M_coldestOn_17 (nI p) t fu a (nI r) = some (clN (pg t p) n r a)
  | n, r, 0, a, hr, hf => absurd hf (by omega)
  | n, r, fu + 1, a, hr, hf => by
    rw [M_coldestOn_17, e]
    by_cases c : r < R
    · obtain ⟨n, rfl⟩ : ∃ k, n = k + 1 := ⟨n - 1, by omega⟩
      rw [if_pos ((nI_ltI (by omega) (by omega)).mpr c), nI_add, midx_nI (by omega) (by decide), nI_add, clN]
      show (if t 11 (p + r) < a then M_coldestOn_17 (nI p) t fu (t 11 (p + r)) (nI (r + 1)) else M_coldestOn_17 (nI p) t fu a (nI (r + 1))) = _
      by_cases d : t 11 (p + r) < a
      · rw [if_pos d, if_pos (show pg t p r < a from d)]
        exact Y_cold17 e hR hp n (r + 1) fu _ (by omega) (by omega)
      · rw [if_neg d, if_neg (show ¬ pg t p r < a from d)]
        exact Y_cold17 e hR hp n (r + 1) fu _ (by omega) (by omega)
    · obtain rfl : n = 0 := by omega
      rw [if_neg (fun z => c ((nI_ltI (by omega) (by omega)).mp z))]; rfl
theorem Y_coldest (e : t 10 1 = nI R) (hR : R ≤ 6) (hp : p + 52 ≤ 312) : M_coldestOn (nI p) t = some (coldM R (pg t p)) := by
  unfold M_coldestOn coldM
  rw [e]
  by_cases c : R = 0
  · subst c
    rw [if_pos (by decide), if_pos rfl, Y_cold17 e hR hp 0 0 FU _ (by omega) (by decide)]; rfl
  · rw [if_neg (nI_ne0 (by omega) (by omega)), if_neg c, Y_cold17 e hR hp R 0 FU _ (by omega) (by show R < 100000; omega)]
theorem Y_hg27 {N : Nat} (hN : N < 1000) (hR : R ≤ 6) : ∀ (n r fu : Nat) (t : sg) (h : Nat), t 10 1 = nI R → pg t 208 49 = nI h → h + n < 2 ^ 29 → r + n = N → n < fu → wp (M_hoursGo_27 (nI N) fu (nI r) t) (fun v => pg v.2 208 = hoursV R n (pg t 208) ∧ v.1 = hoursV R n (pg t 208) 50 - t 11 50 ∧ v.2 10 19 = mnV R n (pg t 208) (t 10 19) ∧ v.2 10 20 = mnV R n (pg t 208) (t 10 20) ∧ offS t v.2)
  | n, r, 0, t, h, e, e9, hh, hr, hf => absurd hf (by omega)
  | n, r, fu + 1, t, h, e, e9, hh, hr, hf => by
    rw [M_hoursGo_27]
    refine wi (fun c => ?_) (fun c => ?_)
    · have hc := (nI_ltI (by omega) (by omega)).mp c
      obtain ⟨n, rfl⟩ : ∃ m, n = m + 1 := ⟨n - 1, by omega⟩
      refine wb (Y_goesOn (by decide) hR e e9 (by omega)) (fun t1 g1 => ?_)
      have e1 : t1 10 1 = nI R := (g1.2 10 1 (by omega) (by decide)).trans e
      rw [Y_coldest e1 hR (by decide)]
      refine wsb ?_
      rw [g1.1]
      have k19 : t1 10 19 = t 10 19 := g1.2 10 19 (by omega) (by decide)
      have k20 : t1 10 20 = t 10 20 := g1.2 10 20 (by omega) (by decide)
      have k50 : t1 11 50 = t 11 50 := g1.2 11 50 (by omega) (by decide)
      have fin : ∀ y z : Int32, y = (if coldM R (nextV R (pg t 208)) < t 10 19 then coldM R (nextV R (pg t 208)) else t 10 19) → z = (if coldM R (nextV R (pg t 208)) < t 10 20 then coldM R (nextV R (pg t 208)) else t 10 20) → wp (M_hoursGo_27 (nI N) fu (nI (r + 1)) (up (up t1 10 19 y) 10 20 z)) (fun v => pg v.2 208 = hoursV R (n + 1) (pg t 208) ∧ v.1 = hoursV R (n + 1) (pg t 208) 50 - t 11 50 ∧ v.2 10 19 = mnV R (n + 1) (pg t 208) (t 10 19) ∧ v.2 10 20 = mnV R (n + 1) (pg t 208) (t 10 20) ∧ offS t v.2) := fun y z hy hz => by
        have ep : pg (up (up t1 10 19 y) 10 20 z) 208 = nextV R (pg t 208) := by rw [pg_16 (by decide), pg_16 (by decide)]; exact g1.1
        refine wc (Y_hg27 hN hR n (r + 1) fu _ (h + 1) ?_ (by rw [ep]; exact nextV_49 hR e9) (by omega) (by omega) (by omega)) (fun v hv => ?_)
        · rw [up_k (by decide), up_k (by decide)]; exact e1
        · rw [ep, up_eq, up_k (show 19 ≠ 20 by decide), up_eq, up_p (show 11 ≠ 10 by decide), up_p (show 11 ≠ 10 by decide), k50] at hv
          refine ⟨hv.1, hv.2.1, ?_, ?_, (offP.s g1.2).tr (((offS.u10 (by decide)).tr (offS.u10 (by decide))).tr hv.2.2.2.2)⟩
          · rw [hv.2.2.1, mnV, hy]
          · rw [hv.2.2.2.1, mnV, hz]
      have go : ∀ y : Int32, y = (if coldM R (nextV R (pg t 208)) < t 10 19 then coldM R (nextV R (pg t 208)) else t 10 19) → wp (M_hoursGo_67 (M_hoursGo_27 (nI N) fu) (nI N) (nI r) (coldM R (nextV R (pg t 208))) y t1) (fun v => pg v.2 208 = hoursV R (n + 1) (pg t 208) ∧ v.1 = hoursV R (n + 1) (pg t 208) 50 - t 11 50 ∧ v.2 10 19 = mnV R (n + 1) (pg t 208) (t 10 19) ∧ v.2 10 20 = mnV R (n + 1) (pg t 208) (t 10 20) ∧ offS t v.2) := fun y hy => by
        unfold M_hoursGo_67 M_hoursGo_89
        refine wsb ?_
        rw [up_k (show 20 ≠ 19 by decide), k20, nI_add]
        refine wi (fun d => wsb (fin _ _ hy ?_)) (fun d => wsb (fin _ _ hy ?_))
        · rw [if_pos d]
        · rw [if_neg d]
      rw [k19]
      refine wi (fun d => go _ ?_) (fun d => go _ ?_)
      · rw [if_pos d]
      · rw [if_neg d]
    · have hc : ¬ r < N := fun z => c ((nI_ltI (by omega) (by omega)).mpr z)
      obtain rfl : n = 0 := by omega
      exact wm rfl (by decide) (by decide) (wm rfl (by decide) (by decide) (ws ⟨rfl, rfl, rfl, rfl, offS.rf⟩))
def pgc (t : sg) (a : Nat) : Nat → Int32 := pg (cpM t a 208 52) 208
theorem pgc_e {a i : Nat} (hi : i < 52) : pgc t a i = pg t a i := cpM_at hi
theorem Y_hoursGo {N a h : Nat} (hN : N < 1000) (hR : R ≤ 6) (e : t 10 1 = nI R) (ha : a + 52 ≤ 208 ∨ (260 ≤ a ∧ a + 52 ≤ 312)) (e9 : pg t a 49 = nI h) (hh : h < 2 ^ 28) : wp (M_hoursGo (nI a) (nI N) t) (fun v => pg v.2 208 = hoursV R N (pgc t a) ∧ v.1 = hoursV R N (pgc t a) 50 - t 11 50 ∧ v.2 10 19 = mnV R N (pgc t a) (coldM R (pgc t a)) ∧ v.2 10 20 = mnV R N (pgc t a) (nI 99) ∧ offS t v.2) := by
  unfold M_hoursGo
  rw [copies_eq (by omega) (by decide) (by omega)]
  refine wsb ?_
  have e1 : (cpM t a 208 52) 10 1 = nI R := (cpM_ne (Or.inl (by decide))).trans e
  rw [Y_coldest e1 hR (by decide)]
  refine wsb (wsb (wsb ?_))
  have ep : pg (up (up (cpM t a 208 52) 10 19 (coldM R (pg (cpM t a 208 52) 208))) 10 20 (nI 99)) 208 = pgc t a := by rw [pg_16 (by decide), pg_16 (by decide)]; rfl
  refine wc (Y_hg27 hN hR N 0 FU _ h ?_ (by rw [ep, pgc_e (by decide)]; exact e9) (by omega) (by omega) (by show N < 100000; omega)) (fun v hv => ?_)
  · rw [up_k (by decide), up_k (by decide)]; exact e1
  · rw [ep, up_eq, up_k (show 19 ≠ 20 by decide), up_eq, up_p (show 11 ≠ 10 by decide), up_p (show 11 ≠ 10 by decide), cpM_ne (show 11 ≠ 11 ∨ 50 < 208 ∨ 208 + 52 ≤ 50 by omega)] at hv
    refine ⟨hv.1, hv.2.1, hv.2.2.1, hv.2.2.2.1, ?_⟩
    refine offS.tr (fun q k a1 a2 a3 => ?_) (((offS.u10 (by decide)).tr (offS.u10 (by decide))).tr hv.2.2.2.2)
    exact cpM_ne (by omega)
/-- the class's copy of the house that stands -/
theorem RG.cp53 (G : RG s t R) : HR (cpH s 53 11) 53 (pgc t 0) R := HR.e G.h.copy (fun i hi => pgc_e hi)
theorem cpNow_eq : C_copyOfNow s = some (cpH s 53 11) := by
  unfold C_copyOfNow
  rw [copyFrom_eq (show dj 53 11 from Or.inr (by decide))]; rfl
theorem RG.h9 {h R' : Nat} (G : RG s t R) (H : HS s 11 R' h) : pgc t 0 49 = nI h := (pgc_e (by decide)).trans (G.hh H)
theorem mnV_0 : ∀ (n : Nat) (g : Nat → Int32), mnV 0 n g (-4) = -4
  | 0, g => rfl
  | n + 1, g => by
    rw [mnV]
    have e : coldM 0 (nextV 0 g) = -4 := by unfold coldM; rw [if_pos rfl]
    rw [e, if_neg (by decide)]
    exact mnV_0 n _
theorem X_cw13 {N : Nat} (hN : N < 1000) (h0 : ¬ R = 0) : ∀ (n r fu : Nat) (s : sg) (g : Nat → Int32) (h : Nat) (a : Int32), HR s 53 g R → g 49 = nI h → h + n < 2 ^ 29 → r + n = N → n < fu → wp (C_coldestWithin_13 (nI N) fu a (nI r) s) (fun v => v.1 = mnV R n g a)
  | n, r, 0, s, g, h, a, H, e, hh, hr, hf => absurd hf (by omega)
  | n, r, fu + 1, s, g, h, a, H, e, hh, hr, hf => by
    rw [C_coldestWithin_13]
    refine wi (fun c => ?_) (fun c => ?_)
    · have hc := (nI_ltI (by omega) (by omega)).mp c
      obtain ⟨n, rfl⟩ : ∃ m, n = m + 1 := ⟨n - 1, by omega⟩
      refine wb (X_passHour H e (by omega)) (fun s1 h1 => ?_)
      rw [X_coldest h1.1, nI_add, mnV]
      refine wsb ?_
      have ec : coldM R (nextV R g) = clN (nextV R g) R 0 (nI 99) := by unfold coldM; rw [if_neg h0]
      rw [ec]
      exact X_cw13 hN h0 n (r + 1) fu s1 _ (h + 1) _ h1.1 (nextV_49 H.r6 e) (by omega) (by omega) (by omega)
    · have hc : ¬ r < N := fun z => c ((nI_ltI (by omega) (by omega)).mpr z)
      obtain rfl : n = 0 := by omega
      exact ws rfl
def JA (a b : Int32 × sg) : Prop := a.1 = b.1
theorem J_runs (F : RF s t) : w2 (C_runs x1 x2 s) (M_runs x1 x2 t) (fun a b => a.1 = b.1) := by
  obtain ⟨⟨R, G⟩, I, M⟩ := F
  have H := G.h
  have h6 := H.r6
  obtain ⟨R', h, hh, Hs⟩ := I.1
  have e9 := G.h9 Hs
  unfold C_runs M_runs
  refine w2P within_eq (inP (by decide) (by decide)) (fun _ => w2s rfl) (fun c1 => ?_)
  obtain ⟨N, hN, rfl⟩ := in_j (by decide) c1
  refine w2P within_eq (inP (by decide) (by decide)) (fun _ => w2s rfl) (fun c2 => ?_)
  obtain ⟨k, hk, rfl⟩ := in_j (by decide) c2
  obtain ⟨v, ev, g1, g2, g3, g4, oS⟩ := Y_hoursGo (N := N) (a := 0) (h := h) (by omega) h6 G.r (by omega) (G.hh Hs) (by omega)
  rw [ev]
  refine w2sr ?_
  have hp : HR (cpH s 53 11) 53 (pgc t 0) R := G.cp53
  have run : ∀ Q : Int32 × sg → Option (Int32 × sg), (∀ u : Int32 × sg, HR u.2 53 (pg v.2 208) R → u.1 = v.1 → (∀ p, ¬ (53 ≤ p ∧ p ≤ 60) → u.2 p = s p) → w2 (Q u) (if nI k = nI 0 then some (v.1, v.2) else if nI k = nI 1 then (midx (nI 259) 312).bind fun j1 => (midx (nI 51) 312).bind fun j2 => some ((v.2 11 j1) - (v.2 11 j2), v.2) else if nI k = nI 2 then (M_warmthOn (nI 208) v.2).bind fun v4 => some (v4, v.2) else if nI k = nI 3 then some (v.2 10 19, v.2) else (M_onOn (nI 208) v.2).bind fun v5 => some (v5, v.2)) (fun a b => a.1 = b.1)) → w2 ((C_copyOfNow s).bind fun s1 => (H_passHours 53 (nI N) s1).bind Q) (if nI k = nI 0 then some (v.1, v.2) else if nI k = nI 1 then (midx (nI 259) 312).bind fun j1 => (midx (nI 51) 312).bind fun j2 => some ((v.2 11 j1) - (v.2 11 j2), v.2) else if nI k = nI 2 then (M_warmthOn (nI 208) v.2).bind fun v4 => some (v4, v.2) else if nI k = nI 3 then some (v.2 10 19, v.2) else (M_onOn (nI 208) v.2).bind fun v5 => some (v5, v.2)) (fun a b => a.1 = b.1) := fun Q hQ => by
    rw [cpNow_eq]
    refine w2sl (w2bl (X_passHours (by omega) hp e9 (by omega)) (fun u hu => hQ u ?_ ?_ (fun p hp' => ?_)))
    · rw [g1]; exact hu.1
    · rw [hu.2.2, g2, pgc_e (by decide), pg0]
    · rw [hu.2.1 p (by omega), cpH_off p (by omega)]
  have e1 : v.2 10 1 = nI R := (oS 10 1 (by omega) (by decide) (by omega)).trans G.r
  have hk' : k = 0 ∨ k = 1 ∨ k = 2 ∨ k = 3 ∨ k = 4 := by omega
  rcases hk' with rfl | rfl | rfl | rfl | rfl
  · rw [if_neg (by decide)]
    refine run _ (fun u h1 h2 h3 => ?_)
    rw [if_pos rfl, if_pos rfl]
    exact w2s h2
  · rw [if_neg (by decide)]
    refine run _ (fun u h1 h2 h3 => ?_)
    rw [if_neg (by decide), if_pos rfl, if_neg (by decide), if_pos rfl]
    refine w2r rfl (by decide) (by decide) (w2r rfl (by decide) (by decide) (w2s ?_))
    show u.2 53 4 - u.2 11 4 = v.2 11 (208 + 51) - v.2 11 51
    have z1 : u.2 53 4 = v.2 11 (208 + 51) := h1.sw.1
    rw [z1, h3 11 (by omega), H.sw.1, pg0, oS 11 51 (by omega) (by decide) (by omega)]
  · rw [if_neg (by decide)]
    refine run _ (fun u h1 h2 h3 => ?_)
    rw [if_neg (by decide), if_neg (by decide), if_pos rfl, if_neg (by decide), if_neg (by decide), if_pos rfl, warm_eq h1, Y_warmthOn e1 h6 (by decide)]
    exact w2s rfl
  · rw [if_pos (show nI 3 = nI 3 from rfl), if_neg (show ¬ nI 3 = nI 0 by decide), if_neg (show ¬ nI 3 = nI 1 by decide), if_neg (show ¬ nI 3 = nI 2 by decide), H.rm]
    by_cases c : R = 0
    · rw [if_pos (by rw [c]; decide)]
      refine w2s ?_
      show -4 = v.2 10 19
      have ec : coldM R (pgc t 0) = -4 := by unfold coldM; rw [if_pos c]
      rw [g3, ec, c, mnV_0]
    · rw [if_neg (nI_ne0 (by omega) (by omega))]
      unfold C_coldestWithin
      rw [cpNow_eq]
      refine w2bl (P := fun u => u.1 = mnV R N (pgc t 0) (coldM R (pgc t 0))) ?_ (fun u hu => w2s ?_)
      · refine wsb ?_
        rw [X_coldest hp]
        refine wsb ?_
        have ec : coldM R (pgc t 0) = clN (pgc t 0) R 0 (nI 99) := by unfold coldM; rw [if_neg c]
        rw [ec]
        exact X_cw13 (by omega) c N 0 FU _ _ h _ hp e9 (by omega) (by omega) (by show N < 100000; omega)
      · show u.1 = v.2 10 19
        rw [hu, g3]
  · rw [if_neg (by decide)]
    refine run _ (fun u h1 h2 h3 => ?_)
    rw [if_neg (by decide), if_neg (by decide), if_neg (by decide), if_neg (by decide), if_neg (by decide), if_neg (by decide), if_neg (by decide), onOn_eq h1 e1 (by decide)]
    exact w2s rfl
theorem J_ahead (F : RF s t) : w2 (C_ahead x1 x2 x3 s) (M_ahead x1 x2 x3 t) (fun a b => a.1 = b.1) := by
  obtain ⟨⟨R, G⟩, I, M⟩ := F
  have H := G.h
  have h6 := H.r6
  obtain ⟨R', h, hh, Hs⟩ := I.1
  have e9 := G.h9 Hs
  unfold C_ahead M_ahead
  refine w2P (hasRoom_P H.rm) (isRoom_P G.r h6) (fun _ => w2s rfl) (fun c0 => ?_)
  obtain ⟨j, hj, rfl⟩ := room_j h6 c0
  refine w2P within_eq (inP (by decide) (by decide)) (fun _ => w2s rfl) (fun c1 => ?_)
  obtain ⟨N, hN, rfl⟩ := in_j (by decide) c1
  refine w2P within_eq (inP (by decide) (by decide)) (fun _ => w2s rfl) (fun c2 => ?_)
  obtain ⟨v, ev, g1, g2, g3, g4, oS⟩ := Y_hoursGo (N := N) (a := 0) (h := h) (by omega) h6 G.r (by omega) (G.hh Hs) (by omega)
  rw [ev, cpNow_eq]
  refine w2sl (w2sr (w2bl (X_passHours (by omega) G.cp53 e9 (by omega)) (fun u hu => ?_)))
  have h1 : HR u.2 53 (pg v.2 208) R := by rw [g1]; exact hu.1
  rw [nI_add, nI_add]
  refine w2i (fun _ => ?_) (fun _ => ?_)
  · refine w2l rfl (by omega) (by decide) (w2r rfl (by omega) (by decide) (w2s ?_))
    exact h1.w hj
  · refine w2r rfl (by omega) (by decide) ?_
    have e : v.2 11 (238 + j) = pg v.2 208 (30 + j) := by unfold pg; rw [show 208 + (30 + j) = 238 + j by omega]
    rw [e]
    refine w2Pl (isOn_eq h1 hj) (fun d => w2s ?_) (fun d => w2s ?_)
    · exact ((h1.bit hj).resolve_right d).symm
    · exact d.symm
theorem K_cold {j : Nat} (hj : j < R) : ∀ (n r fu fu' : Nat) (s t : sg) (h : Nat), HR s 53 (pg t 208) R → t 10 1 = nI R → pg t 208 49 = nI h → h + n < 2 ^ 29 → r + n = 61 → n < fu → n < fu' → w2 (C_cold_31 (nI j) x2 fu (nI r) s) (M_cold_32 (nI j) x2 fu' (nI r) t) (fun a b => a.1 = b.1)
  | n, r, 0, fu', s, t, h, H, e, e9, hh, hr, hf, hf' => absurd hf (by omega)
  | n, r, fu + 1, 0, s, t, h, H, e, e9, hh, hr, hf, hf' => absurd hf' (by omega)
  | n, r, fu + 1, fu' + 1, s, t, h, H, e, e9, hh, hr, hf, hf' => by
    have h6 := H.r6
    rw [C_cold_31, M_cold_32, nI_add, nI_add]
    refine w2i (fun _ => w2s rfl) (fun c => ?_)
    have hc : ¬ 60 < r := fun z => c ((nI_ltI (by decide) (by omega)).mpr z)
    obtain ⟨n, rfl⟩ : ∃ m, n = m + 1 := ⟨n - 1, by omega⟩
    refine w2l rfl (by omega) (by decide) (w2r rfl (by omega) (by decide) ?_)
    have ew : s 54 j = t 11 (208 + j) := H.w hj
    rw [ew]
    refine w2i (fun _ => ?_) (fun _ => w2s rfl)
    refine w2bl (X_passHour H e9 (by omega)) (fun s1 h1 => w2br (Y_goesOn (by decide) h6 e e9 (by omega)) (fun t1 g1 => ?_))
    exact K_cold hj n (r + 1) fu fu' s1 t1 (h + 1) (by rw [g1.1]; exact h1.1) ((g1.2 10 1 (by omega) (by decide)).trans e) (by rw [g1.1]; exact nextV_49 h6 e9) (by omega) (by omega) (by omega) (by omega)
theorem J_cold (F : RF s t) : w2 (C_cold x1 x2 s) (M_cold x1 x2 t) (fun a b => a.1 = b.1) := by
  obtain ⟨⟨R, G⟩, I, M⟩ := F
  have H := G.h
  have h6 := H.r6
  obtain ⟨R', h, hh, Hs⟩ := I.1
  have e9 := G.h9 Hs
  unfold C_cold M_cold
  refine w2P (hasRoom_P H.rm) (isRoom_P G.r h6) (fun _ => w2s rfl) (fun c0 => ?_)
  obtain ⟨j, hj, rfl⟩ := room_j h6 c0
  refine w2P within_eq (inP (by decide) (by decide)) (fun _ => w2s rfl) (fun c1 => ?_)
  rw [cpNow_eq, copies_eq (by decide) (by decide) (by omega)]
  exact w2sl (w2sr (K_cold hj 61 0 FU FU _ _ h G.cp53 ((cpM_ne (Or.inl (by decide))).trans G.r) e9 (by omega) (by decide) (by decide) (by decide)))
end RUNS
end Q84
section Q85
/-! when all comes again; the least mark; the kind by which least is burnt -/
section AGAIN
variable {s t s0 : sg} {b R p : Nat} {g g' : Nat → Int32} {x x1 x2 x3 x4 : Int32}
theorem hoursV_s : ∀ (n : Nat) (g : Nat → Int32), hoursV R (n + 1) g = nextV R (hoursV R n g)
  | 0, g => rfl
  | n + 1, g => by
    show hoursV R (n + 1) (nextV R g) = _
    rw [hoursV_s n (nextV R g)]; rfl
theorem bits_eq : ∀ R : Nat, R < 7 → ∀ m : Nat, m < 2 ^ R → ∀ m' : Nat, m' < 2 ^ R → (∀ r : Nat, r < R → m' / 2 ^ r % 2 = m / 2 ^ r % 2) → m' = m := by decide +kernel
theorem X_like2 {c : Nat} (H : HR s b g' R) (K : HR s c g R) : ∀ (n r fu : Nat), r + n = R → n < fu → ((∀ i, r ≤ i → i < R → g' i = g i) → s b 1 = s c 1 → H_isLike_2 b c s fu (nI r) = some (nI 1)) ∧ (¬ ((∀ i, r ≤ i → i < R → g' i = g i) ∧ s b 1 = s c 1) → H_isLike_2 b c s fu (nI r) = some (nI 0))
  | n, r, 0, hr, hf => absurd hf (by omega)
  | n, r, fu + 1, hr, hf => by
    have h6 := H.r6
    rw [H_isLike_2, H.rm]
    by_cases cc : r < R
    · obtain ⟨n, rfl⟩ : ∃ k, n = k + 1 := ⟨n - 1, by omega⟩
      rw [if_pos ((nI_ltI (by omega) (by omega)).mpr cc), midx_nI (by omega) (by decide)]
      have e : ((some r).bind fun j1 => (some r).bind fun j2 => if s (b + 1) j1 = s (c + 1) j2 then H_isLike_2 b c s fu (nI r + nI 1) else some (nI 0)) = if g' r = g r then H_isLike_2 b c s fu (nI (r + 1)) else some (nI 0) := by
        rw [← H.w cc, ← K.w cc, nI_add]; rfl
      rw [e]
      obtain ⟨i1, i2⟩ := X_like2 H K n (r + 1) fu (by omega) (by omega)
      by_cases d : g' r = g r
      · rw [if_pos d]
        refine ⟨fun h k => i1 (fun i a1 a2 => h i (by omega) a2) k, fun h => i2 (fun z => h ⟨fun i a1 a2 => ?_, z.2⟩)⟩
        by_cases q : i = r
        · rw [q]; exact d
        · exact z.1 i (by omega) a2
      · rw [if_neg d]
        exact ⟨fun h _ => absurd (h r (Nat.le_refl _) cc) d, fun _ => rfl⟩
    · obtain rfl : n = 0 := by omega
      rw [if_neg (fun z => cc ((nI_ltI (by omega) (by omega)).mp z))]
      by_cases d : s b 1 = s c 1
      · rw [if_pos d]
        exact ⟨fun _ _ => rfl, fun h => absurd ⟨fun i a1 a2 => absurd a2 (by omega), d⟩ h⟩
      · rw [if_neg d]
        exact ⟨fun _ k => absurd k d, fun _ => rfl⟩
theorem on_iff {c : Nat} (H : HR s b g' R) (K : HR s c g R) : (s b 1 = s c 1) ↔ ∀ i, i < R → g' (30 + i) = g (30 + i) := by
  obtain ⟨m', a1, a2, a3⟩ := H.on
  obtain ⟨m, b1, b2, b3⟩ := K.on
  have h6 := H.r6
  have c1 := p64 h6 a1
  have c2 := p64 h6 b1
  constructor
  · intro h i hi
    rw [a2, b2, nI_eq (by omega) (by omega)] at h
    rw [a3 i hi, b3 i hi, h]
  · intro h
    have e : m' = m := bits_eq R (by omega) m b1 m' a1 (fun r hr => by
      have z := h r hr
      rw [a3 r hr, b3 r hr, nI_eq (by omega) (by omega)] at z
      exact z)
    rw [a2, b2, e]
theorem Y_38z {k10 : Int32 → sg → Option (Int32 × sg)} (e : t 10 1 = nI R) (hR : R ≤ 6) : ∀ (n r fu : Nat), r + n = R → n < fu → M_again_38 k10 x1 fu (nI 0) (nI r) t = k10 (x1 + nI 1) t
  | n, r, 0, hr, hf => absurd hf (by omega)
  | n, r, fu + 1, hr, hf => by
    rw [M_again_38, e]
    by_cases c : r < R
    · rw [if_pos ((nI_ltI (by omega) (by omega)).mpr c), if_pos (by decide), nI_add]
      exact Y_38z e hR (n - 1) (r + 1) fu (by omega) (by omega)
    · rw [if_neg (fun z => c ((nI_ltI (by omega) (by omega)).mp z)), if_pos (by decide)]
theorem Y_38 {k10 : Int32 → sg → Option (Int32 × sg)} (e : t 10 1 = nI R) (hR : R ≤ 6) : ∀ (n r fu : Nat), r + n = R → n < fu → ((∀ i, r ≤ i → i < R → pg t 208 i = pg t 0 i ∧ pg t 208 (30 + i) = pg t 0 (30 + i)) → M_again_38 k10 x1 fu (nI 1) (nI r) t = some (x1, t)) ∧ (¬ (∀ i, r ≤ i → i < R → pg t 208 i = pg t 0 i ∧ pg t 208 (30 + i) = pg t 0 (30 + i)) → M_again_38 k10 x1 fu (nI 1) (nI r) t = k10 (x1 + nI 1) t)
  | n, r, 0, hr, hf => absurd hf (by omega)
  | n, r, fu + 1, hr, hf => by
    rw [M_again_38, e]
    by_cases c : r < R
    · obtain ⟨n, rfl⟩ : ∃ k, n = k + 1 := ⟨n - 1, by omega⟩
      rw [if_pos ((nI_ltI (by omega) (by omega)).mpr c), if_neg (by decide), nI_add, nI_add, nI_add, nI_add, midx_nI (by omega) (by decide), midx_nI (by omega) (by decide), midx_nI (by omega) (by decide), midx_nI (by omega) (by decide)]
      have z0 : M_again_38 k10 x1 fu (nI 0) (nI (r + 1)) t = k10 (x1 + nI 1) t := Y_38z e hR n (r + 1) fu (by omega) (by omega)
      have ee : ((some (208 + r)).bind fun j1 => (some r).bind fun j2 => if t 11 j1 = t 11 j2 then (some (238 + r)).bind fun j3 => (some (30 + r)).bind fun j4 => if t 11 j3 = t 11 j4 then M_again_38 k10 x1 fu (nI 1) (nI (r + 1)) t else M_again_38 k10 x1 fu (nI 0) (nI (r + 1)) t else M_again_38 k10 x1 fu (nI 0) (nI (r + 1)) t) = if pg t 208 r = pg t 0 r then (if pg t 208 (30 + r) = pg t 0 (30 + r) then M_again_38 k10 x1 fu (nI 1) (nI (r + 1)) t else k10 (x1 + nI 1) t) else k10 (x1 + nI 1) t := by
        rw [z0, pg0, pg0]
        show (if t 11 (208 + r) = t 11 r then (if t 11 (238 + r) = t 11 (30 + r) then M_again_38 k10 x1 fu (nI 1) (nI (r + 1)) t else k10 (x1 + nI 1) t) else k10 (x1 + nI 1) t) = _
        have e2 : pg t 208 (30 + r) = t 11 (238 + r) := by unfold pg; rw [show 208 + (30 + r) = 238 + r by omega]
        rw [e2]; rfl
      rw [ee]
      obtain ⟨i1, i2⟩ := Y_38 (k10 := k10) e hR n (r + 1) fu (by omega) (by omega)
      by_cases d : pg t 208 r = pg t 0 r
      · rw [if_pos d]
        by_cases f : pg t 208 (30 + r) = pg t 0 (30 + r)
        · rw [if_pos f]
          refine ⟨fun h => i1 (fun i a1 a2 => h i (by omega) a2), fun h => i2 (fun z => h (fun i a1 a2 => ?_))⟩
          by_cases q : i = r
          · rw [q]; exact ⟨d, f⟩
          · exact z i (by omega) a2
        · rw [if_neg f]
          exact ⟨fun h => absurd (h r (Nat.le_refl _) c).2 f, fun _ => rfl⟩
      · rw [if_neg d]
        exact ⟨fun h => absurd (h r (Nat.le_refl _) c).1 d, fun _ => rfl⟩
    · rw [if_neg (fun z => c ((nI_ltI (by omega) (by omega)).mp z)), if_neg (by decide)]
      exact ⟨fun _ => rfl, fun h => absurd (fun i a1 a2 => absurd a2 (by omega)) h⟩
theorem Y_run (hR : R ≤ 6) {k : Nat} (hk : k < 7) : ∀ (m fu : Nat) (t : sg) (h : Nat), m ≤ 7 → t 10 1 = nI R → pg t 208 49 = nI h → h + m < 2 ^ 29 → ∃ t', M_again_10 (fu + m) (nI (8 * k + 8 - m)) t = M_again_10 fu (nI (8 * k + 8)) t' ∧ pg t' 208 = hoursV R m (pg t 208) ∧ offP 208 t t'
  | 0, fu, t, h, hm, e, e9, hh => ⟨t, rfl, rfl, offP.rf⟩
  | m + 1, fu, t, h, hm, e, e9, hh => by
    obtain ⟨t1, et, g1, o1⟩ := Y_goesOn (t := t) (p := 208) (by decide) hR e e9 (by omega)
    have e1 : t1 10 1 = nI R := (o1 10 1 (by omega) (by decide)).trans e
    obtain ⟨t2, a1, a2, a3⟩ := Y_run hR hk m fu t1 (h + 1) (by omega) e1 (by rw [g1]; exact nextV_49 hR e9) (by omega)
    refine ⟨t2, ?_, by rw [a2, g1]; rfl, o1.tr a3⟩
    rw [← a1, show fu + (m + 1) = (fu + m) + 1 by omega, M_again_10, if_neg (fun z => by have := (nI_ltI (by decide) (by omega)).mp z; omega), et]
    show (if nI (8 * k + 8 - (m + 1)) - nI (8 * k + 8 - (m + 1)) / nI 8 * nI 8 = 0 then M_again_38 (M_again_10 (fu + m)) (nI (8 * k + 8 - (m + 1))) FU (nI 1) (nI 0) t1 else M_again_38 (M_again_10 (fu + m)) (nI (8 * k + 8 - (m + 1))) FU (nI 0) (nI 0) t1) = _
    rw [pk_rem (by omega) (by decide) (by decide), if_neg (nI_ne0 (by omega) (by omega)), Y_38z e1 hR R 0 FU (by omega) (by show R < 100000; omega), nI_add, show 8 * k + 8 - (m + 1) + 1 = 8 * k + 8 - m by omega]
theorem K_again : ∀ (n k fu fu' : Nat) (s t : sg) (h : Nat), HR s 53 (pg t 208) R → HR s 11 (pg t 0) R → t 10 1 = nI R → pg t 208 49 = nI h → h + 8 * n < 2 ^ 28 → k + n = 7 → n < fu → 8 * n < fu' → w2 (C_again_8 fu (nI (8 * k + 8)) s) (M_again_10 fu' (nI (8 * k + 1)) t) (fun a b => a.1 = b.1)
  | n, k, 0, fu', s, t, h, H, K, e, e9, hh, hr, hf, hf' => absurd hf (by omega)
  | n, k, fu + 1, 0, s, t, h, H, K, e, e9, hh, hr, hf, hf' => absurd hf' (by omega)
  | n, k, fu + 1, fu' + 1, s, t, h, H, K, e, e9, hh, hr, hf, hf' => by
    have h6 := H.r6
    by_cases c7 : k < 7
    · obtain ⟨n, rfl⟩ : ∃ m, n = m + 1 := ⟨n - 1, by omega⟩
      obtain ⟨fu', rfl⟩ : ∃ m, fu' = m + 1 + 6 := ⟨fu' - 7, by omega⟩
      obtain ⟨t1, a1, a2, a3⟩ := Y_run h6 c7 7 (fu' + 1) t h (by omega) e e9 (by omega)
      have e1 : t1 10 1 = nI R := (a3 10 1 (by omega) (by decide)).trans e
      have e91 : pg t1 208 49 = nI (h + 7) := by rw [a2]; exact hoursV_49 h6 7 h _ e9
      obtain ⟨t2, et, g2, o2⟩ := Y_goesOn (t := t1) (p := 208) (by decide) h6 e1 e91 (by omega)
      have e2 : t2 10 1 = nI R := (o2 10 1 (by omega) (by decide)).trans e1
      have g8 : pg t2 208 = hoursV R 8 (pg t 208) := by rw [g2, a2, hoursV_s 7]
      have p0 : ∀ i, i < 52 → pg t2 0 i = pg t 0 i := fun i hi => by rw [pg0, pg0, o2 11 i (by omega) (by decide), a3 11 i (by omega) (by decide)]
      have eM : M_again_10 (fu' + 1 + 6 + 1) (nI (8 * k + 1)) t = M_again_38 (M_again_10 fu') (nI (8 * k + 8)) FU (nI 1) (nI 0) t2 := by
        have z : M_again_10 (fu' + 1 + 6 + 1) (nI (8 * k + 1)) t = M_again_10 (fu' + 1) (nI (8 * k + 8)) t1 := a1
        rw [z, M_again_10, if_neg (fun z => by have := (nI_ltI (by decide) (by omega)).mp z; omega), et]
        show (if nI (8 * k + 8) - nI (8 * k + 8) / nI 8 * nI 8 = 0 then M_again_38 (M_again_10 fu') (nI (8 * k + 8)) FU (nI 1) (nI 0) t2 else M_again_38 (M_again_10 fu') (nI (8 * k + 8)) FU (nI 0) (nI 0) t2) = _
        rw [pk_rem (by omega) (by decide) (by decide), show (8 * k + 8) % 8 = 0 by omega, if_pos (by decide)]
      rw [eM, C_again_8, if_neg (fun z => by have := (nI_ltI (by decide) (by omega)).mp z; omega)]
      refine w2bl (X_passHours (N := 8) (by decide) H e9 (by omega)) (fun u hu => ?_)
      have H' : HR u.2 53 (pg t2 208) R := by rw [g8]; exact hu.1
      have K' : HR u.2 11 (pg t2 0) R := HR.e (K.off (fun p q1 q2 => hu.2.1 p (by omega))) p0
      obtain ⟨i1, i2⟩ := X_like2 H' K' R 0 FU (by omega) (by show R < 100000; omega)
      obtain ⟨y1, y2⟩ := Y_38 (k10 := M_again_10 fu') (x1 := nI (8 * k + 8)) e2 h6 R 0 FU (by omega) (by show R < 100000; omega)
      have io := on_iff H' K'
      unfold H_isLike
      by_cases P : ∀ i, 0 ≤ i → i < R → pg t2 208 i = pg t2 0 i ∧ pg t2 208 (30 + i) = pg t2 0 (30 + i)
      · rw [y1 P, i1 (fun i b1 b2 => (P i b1 b2).1) (io.mpr (fun i hi => (P i (by omega) hi).2))]
        refine w2sl ?_
        rw [if_neg (by decide)]
        exact w2s rfl
      · rw [y2 P, i2 (fun z => P (fun i b1 b2 => ⟨z.1 i b1 b2, io.mp z.2 i b2⟩))]
        refine w2sl ?_
        rw [if_pos (by decide), nI_add, nI_add, show 8 * k + 8 + 8 = 8 * (k + 1) + 8 by omega, show 8 * k + 8 + 1 = 8 * (k + 1) + 1 by omega]
        exact K_again n (k + 1) fu fu' u.2 t2 (h + 8) H' K' e2 (by rw [g8]; exact hoursV_49 h6 8 h _ e9) (by omega) (by omega) (by omega) (by omega)
    · rw [C_again_8, M_again_10, if_pos ((nI_ltI (by decide) (by omega)).mpr (by omega)), if_pos ((nI_ltI (by decide) (by omega)).mpr (by omega))]
      exact w2s rfl
theorem J_again (F : RF s t) : w2 (C_again s) (M_again t) (fun a b => a.1 = b.1) := by
  obtain ⟨⟨R, G⟩, I, M⟩ := F
  have H := G.h
  have h6 := H.r6
  obtain ⟨R', h, hh, Hs⟩ := I.1
  have e9 := G.h9 Hs
  unfold C_again M_again
  rw [cpNow_eq, copies_eq (by decide) (by decide) (by omega)]
  refine w2sl (w2sr (K_again 7 0 FU FU _ _ h G.cp53 ?_ ((cpM_ne (Or.inl (by decide))).trans G.r) e9 (by omega) (by decide) (by decide) (by decide)))
  exact HR.e (H.off (fun p q1 q2 => cpH_off p (by omega))) (fun i hi => by rw [pg0, pg0, cpM_ne (by omega)])
theorem K_stays {N j : Nat} (hN : N < 1000) (hj : j < R) : ∀ (n r fu fu' : Nat) (s t : sg) (h : Nat), HR s 53 (pg t 208) R → t 10 1 = nI R → pg t 208 49 = nI h → h + n < 2 ^ 29 → r + n = N → n < fu → n < fu' → w2 (H_staysWarm_3 53 (nI j) (nI N) x3 fu (nI r) s) (M_keepsWarm_11 (nI j) (nI N) x3 fu' (nI r) t) (fun a b => a.1 = b.1 ∧ offH 53 s a.2 ∧ offS t b.2)
  | n, r, 0, fu', s, t, h, H, e, e9, hh, hr, hf, hf' => absurd hf (by omega)
  | n, r, fu + 1, 0, s, t, h, H, e, e9, hh, hr, hf, hf' => absurd hf' (by omega)
  | n, r, fu + 1, fu' + 1, s, t, h, H, e, e9, hh, hr, hf, hf' => by
    have h6 := H.r6
    rw [H_staysWarm_3, M_keepsWarm_11, nI_add, nI_add]
    refine w2i (fun c => ?_) (fun _ => w2s ⟨rfl, offH.rf, offS.rf⟩)
    have hc := (nI_ltI (by omega) (by omega)).mp c
    obtain ⟨n, rfl⟩ : ∃ m, n = m + 1 := ⟨n - 1, by omega⟩
    refine w2bl (X_passHour H e9 (by omega)) (fun s1 h1 => w2br (Y_goesOn (by decide) h6 e e9 (by omega)) (fun t1 g1 => ?_))
    have H1 : HR s1 53 (pg t1 208) R := by rw [g1.1]; exact h1.1
    refine w2l rfl (by omega) (by decide) (w2r rfl (by omega) (by decide) ?_)
    have ew : s1 (53 + 1) j = t1 11 (208 + j) := H1.w hj
    rw [ew]
    refine w2i (fun _ => w2s ⟨rfl, h1.2, offP.s g1.2⟩) (fun _ => ?_)
    exact (K_stays hN hj n (r + 1) fu fu' s1 t1 (h + 1) H1 ((g1.2 10 1 (by omega) (by decide)).trans e) (by rw [g1.1]; exact nextV_49 h6 e9) (by omega) (by omega) (by omega) (by omega)).c (fun a c q => ⟨q.1, h1.2.tr q.2.1, (offP.s g1.2).tr q.2.2⟩)
theorem K_need {N j h : Nat} {g : Nat → Int32} (hN : N < 1000) (hj : j < R) (H0 : HR s0 11 g R) (e9 : g 49 = nI h) (hh : h ≤ 999) : ∀ (n r fu fu' : Nat) (s t : sg), offT s0 s → t 10 1 = nI R → (∀ i, i < 52 → i ≠ 24 + j → pg t 260 i = g i) → r + n = 100 → n < fu → n < fu' → w2 (C_need_50 (nI j) (nI N) x3 fu (nI r) s) (M_need_56 (nI j) (nI N) x3 fu' (nI r) t) (fun a b => a.1 = b.1)
  | n, r, 0, fu', s, t, oS, e, hp, hr, hf, hf' => absurd hf (by omega)
  | n, r, fu + 1, 0, s, t, oS, e, hp, hr, hf, hf' => absurd hf' (by omega)
  | n, r, fu + 1, fu' + 1, s, t, oS, e, hp, hr, hf, hf' => by
    have h6 := H0.r6
    rw [C_need_50, M_need_56, nI_add, nI_add]
    refine w2i (fun _ => w2s rfl) (fun c => ?_)
    have hc : ¬ 99 < r := fun z => c ((nI_ltI (by decide) (by omega)).mpr z)
    obtain ⟨n, rfl⟩ : ∃ m, n = m + 1 := ⟨n - 1, by omega⟩
    rw [cpNow_eq]
    refine w2sl (w2l rfl (by omega) (by decide) (w2sl (w2r rfl (by omega) (by decide) (w2sr ?_))))
    have H11 : HR s 11 g R := H0.off (fun p q1 q2 => oS p (by omega))
    have H1 : HR (up (cpH s 53 11) (53 + 5) j (nI r)) 53 (gu g (24 + j) (nI r)) R := (H11.copy (b := 53)).set5 hj (by omega)
    unfold M_keepsWarm
    rw [copies_eq (by decide) (by decide) (by omega)]
    have ep : ∀ i, i < 52 → pg (cpM (up t 11 (284 + j) (nI r)) 260 208 52) 208 i = gu g (24 + j) (nI r) i := fun i hi => by
      rw [cpM_at hi]
      by_cases z : i = 24 + j
      · rw [z, gu_eq]
        show (up t 11 (284 + j) (nI r)) 11 (260 + (24 + j)) = _
        rw [show 260 + (24 + j) = 284 + j by omega, up_eq]
      · rw [gu_ne z, ← hp i hi z]
        show (up t 11 (284 + j) (nI r)) 11 (260 + i) = t 11 (260 + i)
        rw [up_k (by omega)]
    have H2 : HR (up (cpH s 53 11) 58 j (nI r)) 53 (pg (cpM (up t 11 (284 + j) (nI r)) 260 208 52) 208) R := HR.e H1 ep
    unfold H_staysWarm
    refine w2b (K_stays (x3 := x3) hN hj N 0 FU FU _ _ h H2 ?_ ?_ (by omega) (by omega) (by show N < 100000; omega) (by show N < 100000; omega)) (fun a d q => ?_)
    · rw [cpM_ne (Or.inl (by decide)), up_p (by decide)]; exact e
    · rw [ep 49 (by decide), gu_ne (by omega)]; exact e9
    · obtain ⟨q1, q2, q3⟩ := q
      rw [q1]
      refine w2i (fun _ => ?_) (fun _ => w2s rfl)
      refine K_need hN hj H0 e9 hh n (r + 1) fu fu' a.2 d.2 (fun p hp' => ?_) ?_ (fun i hi hne => ?_) (by omega) (by omega) (by omega)
      · rw [q2 p (by omega), up_off (by omega), cpH_off p (by omega)]; exact oS p hp'
      · rw [q3 10 1 (by omega) (by decide) (by omega), cpM_ne (Or.inl (by decide)), up_p (by decide)]; exact e
      · rw [← hp i hi hne]
        show d.2 11 (260 + i) = t 11 (260 + i)
        rw [q3 11 _ (by omega) (by decide) (by omega), cpM_ne (by omega), up_k (by omega)]
theorem J_need (F : RF s t) : w2 (C_need x1 x2 x3 s) (M_need x1 x2 x3 t) (fun a b => a.1 = b.1) := by
  obtain ⟨⟨R, G⟩, I, M⟩ := F
  have H := G.h
  have h6 := H.r6
  obtain ⟨R', h, hh, Hs⟩ := I.1
  unfold C_need M_need
  refine w2P (hasRoom_P H.rm) (isRoom_P G.r h6) (fun _ => w2s rfl) (fun c0 => ?_)
  obtain ⟨j, hj, rfl⟩ := room_j h6 c0
  refine w2P within_eq (inP (by decide) (by decide)) (fun _ => w2s rfl) (fun c1 => ?_)
  obtain ⟨N, hN1, hN, rfl⟩ := in_nI (by decide) c1 (by decide)
  refine w2P within_eq (inP (by decide) (by decide)) (fun _ => w2s rfl) (fun c2 => ?_)
  refine w2P (hasTongue_eq H hj) (hasT_eq (by omega)) (fun _ => w2s rfl) (fun c4 => ?_)
  rw [copies_eq (by decide) (by decide) (by omega)]
  refine w2sr (K_need (s0 := s) (by omega) hj H (G.hh Hs) hh 100 0 FU FU s _ (fun _ _ => rfl) ((cpM_ne (Or.inl (by decide))).trans G.r) (fun i hi _ => cpM_at hi) (by decide) (by decide) (by decide))
theorem K_kind {N j h : Nat} {g : Nat → Int32} (hN : N < 1000) (hj : j < R) (H0 : HR s0 11 g R) (e9 : g 49 = nI h) (hh : h ≤ 999) (ht : 0 < g (18 + j)) : ∀ (n r fu fu' : Nat) (s t : sg) (y4 y5 z4 z5 : Int32), offT s0 s → t 10 1 = nI R → t 11 50 = g 50 → (∀ i, i < 52 → i ≠ 18 + j → pg t 260 i = g i) → ((r = 0 ∧ y4 = -4 ∧ y5 = nI 10000 ∧ z4 = nI 1000000 ∧ z5 = nI 0) ∨ (0 < r ∧ ¬ y4 = -4 ∧ z4 = y5 ∧ z5 = y4)) → r + n = 4 → n < fu → n < fu' → w2 (C_kind_58 (nI j) (nI N) x3 fu y4 y5 (nI r) s) (M_kind_61 (nI j) (nI N) x3 fu' z4 z5 (nI r) t) (fun a b => a.1 = b.1)
  | n, r, 0, fu', s, t, y4, y5, z4, z5, oS, e, e50, hp, hi, hr, hf, hf' => absurd hf (by omega)
  | n, r, fu + 1, 0, s, t, y4, y5, z4, z5, oS, e, e50, hp, hi, hr, hf, hf' => absurd hf' (by omega)
  | n, r, fu + 1, fu' + 1, s, t, y4, y5, z4, z5, oS, e, e50, hp, hi, hr, hf, hf' => by
    have h6 := H0.r6
    rw [C_kind_58, M_kind_61, nI_add, nI_add]
    by_cases c : r < 4
    · rw [if_neg (fun z => by have := (nI_ltI (by decide) (by omega)).mp z; omega), if_pos ((nI_ltI (by omega) (by decide)).mpr c), cpNow_eq]
      obtain ⟨n, rfl⟩ : ∃ m, n = m + 1 := ⟨n - 1, by omega⟩
      refine w2sl (w2l rfl (by omega) (by decide) (w2sl (w2r rfl (by omega) (by decide) (w2sr ?_))))
      have H11 : HR s 11 g R := H0.off (fun p q1 q2 => oS p (by omega))
      have Hc : HR (cpH s 53 11) 53 g R := H11.copy
      have H1 : HR (up (cpH s 53 11) (53 + 4) j (nI r)) 53 (gu g (18 + j) (nI r + nI 1)) R := Hc.set4 hj (by omega) ((Hc.to j hj).2.2 ht)
      rw [nI_add] at H1
      have ep : ∀ i, i < 52 → pgc (up t 11 (278 + j) (nI (r + 1))) 260 i = gu g (18 + j) (nI (r + 1)) i := fun i hi => by
        rw [pgc_e hi]
        by_cases z : i = 18 + j
        · rw [z, gu_eq]
          show (up t 11 (278 + j) (nI (r + 1))) 11 (260 + (18 + j)) = _
          rw [show 260 + (18 + j) = 278 + j by omega, up_eq]
        · rw [gu_ne z, ← hp i hi z]
          show (up t 11 (278 + j) (nI (r + 1))) 11 (260 + i) = t 11 (260 + i)
          rw [up_k (by omega)]
      have H2 : HR (up (cpH s 53 11) 57 j (nI r)) 53 (pgc (up t 11 (278 + j) (nI (r + 1))) 260) R := HR.e H1 ep
      have e9' : pgc (up t 11 (278 + j) (nI (r + 1))) 260 49 = nI h := by rw [ep 49 (by decide), gu_ne (by omega)]; exact e9
      have e50' : pgc (up t 11 (278 + j) (nI (r + 1))) 260 50 = g 50 := by rw [ep 50 (by decide), gu_ne (by omega)]
      obtain ⟨v, ev, g1, g2, _, _, oV⟩ := Y_hoursGo (t := up t 11 (278 + j) (nI (r + 1))) (N := N) (a := 260) (h := h) hN h6 (by rw [up_p (by decide)]; exact e) (by omega) (by rw [← pgc_e (by decide)]; exact e9') (by omega)
      obtain ⟨u, eu, k1, k2, k3⟩ := X_passHours hN H2 e9' (by omega)
      rw [eu, ev]
      refine w2sl (w2sr ?_)
      have euv : u.1 = v.1 := by rw [k3, g2, e50', up_k (by omega), e50]
      rw [← euv]
      have lt : r = 0 → u.1 < nI 10000 ∧ u.1 < nI 1000000 := fun _ => by
        obtain ⟨_, c1, hc1, d1⟩ := k1.bu
        obtain ⟨_, c2, hc2, d2⟩ := H0.bu
        rw [k3, e50', d1, d2]
        rw [Int32.lt_iff_toInt_lt, Int32.lt_iff_toInt_lt, pk_sub_toInt (by omega) (by omega), nI_toInt (by decide), nI_toInt (by decide)]
        omega
      have next : ∀ y4' y5' z4' z5' : Int32, ¬ y4' = -4 → z4' = y5' → z5' = y4' → w2 (C_kind_58 (nI j) (nI N) x3 fu y4' y5' (nI (r + 1)) u.2) (M_kind_61 (nI j) (nI N) x3 fu' z4' z5' (nI (r + 1)) v.2) (fun a b => a.1 = b.1) := fun y4' y5' z4' z5' q1 q2 q3 => by
        refine K_kind hN hj H0 e9 hh ht n (r + 1) fu fu' u.2 v.2 y4' y5' z4' z5' (fun p hp' => ?_) ?_ ?_ (fun i hi hne => ?_) (Or.inr ⟨by omega, q1, q2, q3⟩) (by omega) (by omega) (by omega)
        · rw [k2 p (by omega), up_off (by omega), cpH_off p (by omega)]; exact oS p hp'
        · rw [oV 10 1 (by omega) (by decide) (by omega), up_p (by decide)]; exact e
        · rw [oV 11 50 (by omega) (by decide) (by omega), up_k (by omega)]; exact e50
        · rw [← hp i hi hne]
          show v.2 11 (260 + i) = t 11 (260 + i)
          rw [oV 11 _ (by omega) (by decide) (by omega), up_k (by omega)]
      have nr : ¬ nI r = -4 := fun z => absurd (nI_pos (n := r) (by omega)) (by rw [z]; decide)
      rcases hi with ⟨r0, a1, a2, a3, a4⟩ | ⟨rp, a1, a2, a3⟩
      · obtain ⟨l1, l2⟩ := lt r0
        rw [a2, a3, if_pos l1, if_pos l2]
        unfold M_kind_105
        rw [if_pos l2, nI_add]
        exact next _ _ _ _ nr rfl rfl
      · rw [a2, a3]
        by_cases d : u.1 < y5
        · rw [if_pos d, if_pos d]
          unfold M_kind_105
          rw [if_pos d, nI_add]
          exact next _ _ _ _ nr rfl rfl
        · rw [if_neg d, if_neg d]
          unfold M_kind_105
          rw [if_neg d, nI_add]
          exact next _ _ _ _ a1 rfl rfl
    · rw [if_pos ((nI_ltI (by decide) (by omega)).mpr (by omega)), if_neg (fun z => c ((nI_ltI (by omega) (by decide)).mp z))]
      rcases hi with ⟨r0, _⟩ | ⟨rp, a1, a2, a3⟩
      · omega
      · rw [a2, a3]
        unfold C_chosen
        rw [if_neg a1]
        by_cases d : x3 = 0
        · rw [if_pos d, if_pos d]; exact w2s rfl
        · rw [if_neg d, if_neg d]; exact w2s rfl
theorem J_kind (F : RF s t) : w2 (C_kind x1 x2 x3 s) (M_kind x1 x2 x3 t) (fun a b => a.1 = b.1) := by
  obtain ⟨⟨R, G⟩, I, M⟩ := F
  have H := G.h
  have h6 := H.r6
  obtain ⟨R', h, hh, Hs⟩ := I.1
  unfold C_kind M_kind
  refine w2P (hasRoom_P H.rm) (isRoom_P G.r h6) (fun _ => w2s rfl) (fun c0 => ?_)
  obtain ⟨j, hj, rfl⟩ := room_j h6 c0
  refine w2P within_eq (inP (by decide) (by decide)) (fun _ => w2s rfl) (fun c1 => ?_)
  obtain ⟨N, hN, rfl⟩ := in_j (by decide) c1
  refine w2P within_eq (inP (by decide) (by decide)) (fun _ => w2s rfl) (fun c2 => ?_)
  refine w2P (hasTongue_eq H hj) (hasT_eq (by omega)) (fun _ => w2s rfl) (fun c4 => ?_)
  rw [copies_eq (by decide) (by decide) (by omega)]
  refine w2sr (K_kind (s0 := s) (by omega) hj H (G.hh Hs) hh c4 4 0 FU FU s _ _ _ _ _ (fun _ _ => rfl) ((cpM_ne (Or.inl (by decide))).trans G.r) ?_ (fun i hi _ => cpM_at hi) (Or.inl ⟨rfl, rfl, rfl, rfl, rfl⟩) (by decide) (by decide) (by decide))
  rw [cpM_ne (by omega), pg0]
end AGAIN
end Q85
section Q86
/-! walls, tongues, skies that are tried, by both -/
section TRIAL
variable {s t s0 : sg} {b R p N h : Nat} {g g' : Nat → Int32} {x x1 x2 x3 x4 : Int32}
theorem K_trial {S T : sg} (hN : N < 1000) (H : HR S 53 g' R) (e : T 10 1 = nI R) (ep : ∀ i, i < 52 → pg T 260 i = g' i) (e9 : g' 49 = nI h) (hh : h ≤ 999) (e50 : T 11 50 = g' 50) : w2 (H_passHours 53 (nI N) S) (M_hoursGo (nI 260) (nI N) T) (fun u v => u.1 = v.1 ∧ offH 53 S u.2 ∧ offS T v.2) := by
  have H2 : HR S 53 (pgc T 260) R := HR.e H (fun i hi => by rw [pgc_e hi]; exact ep i hi)
  have e9' : pgc T 260 49 = nI h := by rw [pgc_e (by decide), ep 49 (by decide)]; exact e9
  have e50' : pgc T 260 50 = g' 50 := by rw [pgc_e (by decide), ep 50 (by decide)]
  refine w2.mk (X_passHours hN H2 e9' (by omega)) (Y_hoursGo hN H.r6 e (by omega) (by rw [ep 49 (by decide)]; exact e9) (by omega)) (fun u v hu hv => ⟨?_, hu.2.1, hv.2.2.2.2⟩)
  rw [hu.2.2, hv.2.1, e50', e50]
theorem pg260 {k : Nat} {v : Int32} : pg (up t 11 (260 + k) v) 260 = gu (pg t 260) k v := pg_up
/-- what the reference's trials leave: the pages below 156 -/
theorem base_S {T : sg} (o : offS t T) : ∀ i, i < 52 → pg T 0 i = pg t 0 i := fun i hi => by rw [pg0, pg0]; exact o 11 i (by omega) (by decide) (by omega)
theorem C_ch {y3 y4 : Int32} : C_chosen y3 y4 x2 s = some (if y3 = -4 then -4 else if x2 = 0 then y3 else y4) := by
  unfold C_chosen
  by_cases c : y3 = -4
  · rw [if_pos c, if_pos c]
  · rw [if_neg c, if_neg c]
    by_cases d : x2 = 0
    · rw [if_pos d, if_pos d]
    · rw [if_neg d, if_neg d]
theorem K_seal (hN : N < 1000) (H0 : HR s0 11 g R) (e9 : g 49 = nI h) (hh : h ≤ 999) : ∀ (n r fu fu' : Nat) (s t : sg) (y3 y4 : Int32), offT s0 s → t 10 1 = nI R → (∀ i, i < 52 → pg t 0 i = g i) → r + n = R → n < fu → n < fu' → w2 (C_seal_37 (nI N) x2 fu y3 y4 (nI r) s) (M_seal_38 (nI N) x2 fu' y4 y3 (nI r) t) (fun a b => a.1 = b.1)
  | n, r, 0, fu', s, t, y3, y4, oS, e, hp, hr, hf, hf' => absurd hf (by omega)
  | n, r, fu + 1, 0, s, t, y3, y4, oS, e, hp, hr, hf, hf' => absurd hf' (by omega)
  | n, r, fu + 1, fu' + 1, s, t, y3, y4, oS, e, hp, hr, hf, hf' => by
    have h6 := H0.r6
    have H11 : HR s 11 g R := H0.off (fun p q1 q2 => oS p (by omega))
    rw [C_seal_37, M_seal_38, H11.rm, e, nI_add]
    refine w2i (fun c => ?_) (fun _ => ?_)
    · have hc := (nI_m1 (by omega) (by omega)).mp c
      obtain ⟨n, rfl⟩ : ∃ m, n = m + 1 := ⟨n - 1, by omega⟩
      rw [cpNow_eq, copies_eq (by decide) (by decide) (by omega), nI_add]
      refine w2sl (w2l rfl (by omega) (by decide) (w2sl (w2sr (w2r rfl (by omega) (by decide) (w2sr ?_)))))
      have H1 : HR (up (cpH s 53 11) (53 + 6) r (nI 0)) 53 (gu g (36 + r) (-2)) R := (H11.copy (b := 53)).set6 hc (by rw [gu_eq]; decide) (fun i hi => gu_ne hi)
      have ep : ∀ i, i < 52 → pg (up (cpM t 0 260 52) 11 (296 + r) (-2)) 260 i = gu g (36 + r) (-2) i := fun i hi => by
        rw [show 296 + r = 260 + (36 + r) by omega, pg260]
        unfold gu
        by_cases z : i = 36 + r
        · rw [if_pos z, if_pos z]
        · rw [if_neg z, if_neg z, cpM_at hi]; exact hp i hi
      refine w2b (K_trial (h := h) hN H1 ?_ ep ?_ hh ?_) (fun u v q => ?_)
      · rw [up_p (by decide), cpM_ne (Or.inl (by decide))]; exact e
      · rw [gu_ne (by omega)]; exact e9
      · rw [up_k (by omega), cpM_ne (by omega), gu_ne (by omega), ← pg0 (t := t)]; exact hp 50 (by decide)
      · obtain ⟨q1, q2, q3⟩ := q
        rw [← q1]
        have next : ∀ y3' y4' : Int32, w2 (C_seal_37 (nI N) x2 fu y3' y4' (nI (r + 1)) u.2) (M_seal_38 (nI N) x2 fu' y4' y3' (nI (r + 1)) v.2) (fun a b => a.1 = b.1) := fun y3' y4' => by
          refine K_seal hN H0 e9 hh n (r + 1) fu fu' u.2 v.2 y3' y4' (fun p hp' => ?_) ?_ (fun i hi => ?_) (by omega) (by omega) (by omega)
          · rw [q2 p (by omega), up_off (by omega), cpH_off p (by omega)]; exact oS p hp'
          · rw [q3 10 1 (by omega) (by decide) (by omega), up_p (by decide), cpM_ne (Or.inl (by decide))]; exact e
          · rw [← hp i hi, pg0, pg0, q3 11 i (by omega) (by decide) (by omega), up_k (by omega), cpM_ne (by omega)]
        by_cases d : u.1 < y4
        · rw [if_pos d, if_pos d]
          unfold M_seal_93
          rw [if_pos d, nI_add]; exact next _ _
        · rw [if_neg d, if_neg d]
          unfold M_seal_93
          rw [if_neg d, nI_add]; exact next _ _
    · rw [C_ch]
      refine w2sl ?_
      by_cases c : y3 = -4
      · rw [if_pos c, if_pos c]; exact w2s c.symm
      · rw [if_neg c, if_neg c]
        by_cases d : x2 = 0
        · rw [if_pos d, if_pos d]; exact w2s rfl
        · rw [if_neg d, if_neg d]; exact w2s rfl
theorem J_seal (F : RF s t) : w2 (C_seal x1 x2 s) (M_seal x1 x2 t) (fun a b => a.1 = b.1) := by
  obtain ⟨⟨R, G⟩, I, M⟩ := F
  have H := G.h
  have h6 := H.r6
  obtain ⟨R', h, hh, Hs⟩ := I.1
  unfold C_seal M_seal
  refine w2P within_eq (inP (by decide) (by decide)) (fun _ => w2s rfl) (fun c1 => ?_)
  obtain ⟨N, hN, rfl⟩ := in_j (by decide) c1
  refine w2P within_eq (inP (by decide) (by decide)) (fun _ => w2s rfl) (fun c2 => ?_)
  rw [cpNow_eq]
  refine w2sl (w2bl (X_passHours (by omega) G.cp53 (G.h9 Hs) (by omega)) (fun u hu => w2br (Y_hoursGo (N := N) (a := 0) (by omega) h6 G.r (by omega) (G.hh Hs) (by omega)) (fun v hv => ?_)))
  have euv : u.1 = v.1 := by rw [hu.2.2, hv.2.1, pgc_e (by decide), pg0]
  rw [← euv]
  refine K_seal (s0 := s) (by omega) H (G.hh Hs) hh R 0 FU FU u.2 v.2 _ _ (fun p hp' => ?_) ?_ (base_S hv.2.2.2.2) (by omega) (by show R < 100000; omega) (by show R < 100000; omega)
  · rw [hu.2.1 p (by omega), cpH_off p (by omega)]
  · rw [hv.2.2.2.2 10 1 (by omega) (by decide) (by omega)]; exact G.r
/-! which tongue can be spared -/
theorem mnV_le : ∀ (n : Nat) (g : Nat → Int32) (a : Int32), a < x2 → mnV R n g a < x2
  | 0, g, a, h => h
  | n + 1, g, a, h => by
    rw [mnV]
    refine mnV_le n _ _ ?_
    by_cases c : coldM R (nextV R g) < a
    · rw [if_pos c]
      rw [Int32.lt_iff_toInt_lt] at c h ⊢
      omega
    · rw [if_neg c]; exact h
theorem X_burnt {N : Nat} (hN : N < 1000) (h0 : ¬ R = 0) : ∀ (n r fu : Nat) (s : sg) (g : Nat → Int32) (h : Nat) (a : Int32), HR s 53 g R → g 49 = nI h → h + n < 2 ^ 29 → ¬ a < x2 → r + n = N → n < fu → wp (H_burntAllWarm_8 53 (nI N) x2 x3 fu (nI r) s) (fun v => (mnV R n g a < x2 → v.1 = -4) ∧ (¬ mnV R n g a < x2 → v.1 = hoursV R n g 50 - x3) ∧ offH 53 s v.2)
  | n, r, 0, s, g, h, a, H, e, hh, ha, hr, hf => absurd hf (by omega)
  | n, r, fu + 1, s, g, h, a, H, e, hh, ha, hr, hf => by
    rw [H_burntAllWarm_8]
    refine wi (fun c => ?_) (fun c => ?_)
    · have hc := (nI_ltI (by omega) (by omega)).mp c
      obtain ⟨n, rfl⟩ : ∃ m, n = m + 1 := ⟨n - 1, by omega⟩
      refine wb (X_passHour H e (by omega)) (fun s1 h1 => ?_)
      rw [X_coldest h1.1, nI_add]
      refine wsb ?_
      have ec : coldM R (nextV R g) = clN (nextV R g) R 0 (nI 99) := by unfold coldM; rw [if_neg h0]
      rw [← ec]
      refine wi (fun d => ws ⟨fun _ => rfl, fun z => absurd ?_ z, h1.2⟩) (fun d => ?_)
      · rw [mnV]
        refine mnV_le n _ _ ?_
        rw [if_pos (by rw [Int32.lt_iff_toInt_lt] at ha d ⊢; omega)]; exact d
      · rw [mnV]
        have ha' : ¬ (if coldM R (nextV R g) < a then coldM R (nextV R g) else a) < x2 := by
          by_cases q : coldM R (nextV R g) < a
          · rw [if_pos q]; exact d
          · rw [if_neg q]; exact ha
        exact wc (X_burnt hN h0 n (r + 1) fu s1 _ (h + 1) _ h1.1 (nextV_49 H.r6 e) (by omega) ha' (by omega) (by omega)) (fun v hv => ⟨hv.1, hv.2.1, h1.2.tr hv.2.2⟩)
    · have hc : ¬ r < N := fun z => c ((nI_ltI (by omega) (by omega)).mpr z)
      obtain rfl : n = 0 := by omega
      refine ws ⟨fun z => absurd z ha, fun _ => ?_, offH.rf⟩
      show s 53 3 - x3 = g 50 - x3
      rw [H.bu.1]
theorem incV_n {c : Nat} (hc : c ≤ 9999) : ∃ c', c ≤ c' ∧ c' ≤ 9999 ∧ incV (nI c) = nI c' := by
  unfold incV
  by_cases h : c < 9999
  · rw [if_pos ((nI_ltI (by omega) (by decide)).mpr h), nI_add]
    exact ⟨c + 1, by omega, by omega, rfl⟩
  · rw [if_neg (fun z => h ((nI_ltI (by omega) (by decide)).mp z))]
    exact ⟨c, by omega, hc, rfl⟩
theorem brV_n : ∀ (n r c : Nat), c ≤ 9999 → ∃ c', c ≤ c' ∧ c' ≤ 9999 ∧ brV g x2 n r (nI c) = nI c'
  | 0, r, c, hc => ⟨c, Nat.le_refl _, hc, rfl⟩
  | n + 1, r, c, hc => by
    rw [brV]
    by_cases d : g (30 + r) = nI 1 ∧ x2 = 0
    · rw [if_pos d]
      obtain ⟨c1, a1, a2, a3⟩ := incV_n hc
      obtain ⟨c2, b1, b2, b3⟩ := brV_n n (r + 1) c1 a2
      rw [a3]
      exact ⟨c2, by omega, b2, b3⟩
    · rw [if_neg d]; exact brV_n n (r + 1) c hc
theorem hourV_50 {c : Nat} (hR : R ≤ 6) (hc : c ≤ 9999) (e : g 50 = nI c) : ∃ c', c ≤ c' ∧ c' ≤ 9999 ∧ hourV R x1 x2 g 50 = nI c' := by
  have z : hourV R x1 x2 g 50 = brV (swN g R 0) x2 R 0 (nI c) := by
    unfold hourV passV
    rw [gu_ne (by decide), mid_50 hR, swN_at (by omega) (by decide) R 0 g (by omega), e]
  rw [z]
  exact brV_n R 0 c hc
theorem hoursV_50 (hR : R ≤ 6) : ∀ (n c : Nat) (g : Nat → Int32), c ≤ 9999 → g 50 = nI c → ∃ c', c ≤ c' ∧ c' ≤ 9999 ∧ hoursV R n g 50 = nI c'
  | 0, c, g, hc, e => ⟨c, Nat.le_refl _, hc, e⟩
  | n + 1, c, g, hc, e => by
    obtain ⟨c1, a1, a2, a3⟩ := hourV_50 (x1 := skyV g) (x2 := nI 0) hR hc e
    obtain ⟨c2, b1, b2, b3⟩ := hoursV_50 hR n c1 (nextV R g) a2 a3
    exact ⟨c2, by omega, b2, b3⟩
theorem K_spare (hN : N < 1000) (H0 : HR s0 11 g R) (e9 : g 49 = nI h) (hh : h ≤ 999) (hx : ¬ nI 99 < x2) : ∀ (n r fu fu' : Nat) (s t : sg) (y4 y5 z4 : Int32), offT s0 s → t 10 1 = nI R → (∀ i, i < 52 → pg t 0 i = g i) → ((y4 = -4 ∧ y5 = nI 10000 ∧ z4 = nI 1000000) ∨ (¬ y4 = -4 ∧ z4 = y5)) → r + n = R → n < fu → n < fu' → w2 (C_spare_43 (nI N) x2 x3 fu y4 y5 (nI r) s) (M_spare_47 (nI N) x2 x3 fu' z4 y4 (nI r) t) (fun a b => a.1 = b.1)
  | n, r, 0, fu', s, t, y4, y5, z4, oS, e, hp, hi, hr, hf, hf' => absurd hf (by omega)
  | n, r, fu + 1, 0, s, t, y4, y5, z4, oS, e, hp, hi, hr, hf, hf' => absurd hf' (by omega)
  | n, r, fu + 1, fu' + 1, s, t, y4, y5, z4, oS, e, hp, hi, hr, hf, hf' => by
    have h6 := H0.r6
    have H11 : HR s 11 g R := H0.off (fun p q1 q2 => oS p (by omega))
    have Ht : HR s 11 (pg t 0) R := HR.e H11 hp
    rw [C_spare_43, M_spare_47, H11.rm, e, nI_add]
    by_cases c : r < R
    · rw [if_pos ((nI_ltI (by omega) (by omega)).mpr c), if_pos ((nI_ltI (by omega) (by omega)).mpr c)]
      obtain ⟨n, rfl⟩ : ∃ m, n = m + 1 := ⟨n - 1, by omega⟩
      refine w2P (hasTongue_eq Ht c) (hasT_eq (by omega)) (fun _ => K_spare hN H0 e9 hh hx n (r + 1) fu fu' s t y4 y5 z4 oS e hp hi (by omega) (by omega) (by omega)) (fun _ => ?_)
      rw [cpNow_eq, copies_eq (by decide) (by decide) (by omega)]
      refine w2sl (w2sr ?_)
      rw [take_eq (by omega), strips_eq (by decide) (by omega)]
      refine w2sl (w2sr ?_)
      have H1 := (H11.copy (b := 53)).take c
      generalize hS : up (up (cpH s 53 11) (53 + 4) r (-1)) 53 1 ((cpH s 53 11) 53 1 &&& ((nI 1 <<< (nI r &&& 31)) ^^^ (-1))) = S at *
      generalize hT : up (up (up (cpM t 0 260 52) 11 (260 + (18 + r)) (nI 0)) 11 (260 + (24 + r)) (nI 0)) 11 (260 + (30 + r)) (nI 0) = T at *
      have ep : ∀ i, i < 52 → pg T 260 i = gu (gu (gu g (18 + r) (nI 0)) (24 + r) (nI 0)) (30 + r) (nI 0) i := fun i hi => by
        rw [← hT, pg260, pg260, pg260]
        have e0 : pg (cpM t 0 260 52) 260 i = g i := by rw [cpM_at hi]; exact hp i hi
        unfold gu
        rw [e0]
      have eT : T 10 1 = nI R := by rw [← hT, up_p (by decide), up_p (by decide), up_p (by decide), cpM_ne (Or.inl (by decide))]; exact e
      have oT : ∀ i, i < 52 → T 11 i = t 11 i := fun i hi => by rw [← hT, up_k (by omega), up_k (by omega), up_k (by omega), cpM_ne (by omega)]
      have H2 : HR S 53 (pgc T 260) R := HR.e H1 (fun i hi => by rw [pgc_e hi]; exact ep i hi)
      have e9' : pgc T 260 49 = nI h := by rw [pgc_e (by decide), ep 49 (by decide), gu_ne (by omega), gu_ne (by omega), gu_ne (by omega)]; exact e9
      have e50' : pgc T 260 50 = g 50 := by rw [pgc_e (by decide), ep 50 (by decide), gu_ne (by omega), gu_ne (by omega), gu_ne (by omega)]
      have t50 : T 11 50 = g 50 := by rw [oT 50 (by decide), ← pg0 (t := t)]; exact hp 50 (by decide)
      obtain ⟨v, ev, g1, g2, g3, g4, oV⟩ := Y_hoursGo (t := T) (N := N) (a := 260) (h := h) hN h6 eT (by omega) (by rw [← pgc_e (by decide)]; exact e9') (by omega)
      obtain ⟨u, eu, k1, k2, k3⟩ := X_burnt (x2 := x2) (x3 := pgc T 260 50) hN (by omega) N 0 FU S (pgc T 260) h (nI 99) H2 e9' (by omega) hx (by omega) (by show N < 100000; omega)
      have eb : H_burntAllWarm 53 (nI N) x2 S = some u := by
        unfold H_burntAllWarm
        rw [H2.bu.1]; exact eu
      rw [eb, ev]
      refine w2sl (w2sr ?_)
      rw [g4]
      have next : ∀ y4' y5' z4' : Int32, ((y4' = -4 ∧ y5' = nI 10000 ∧ z4' = nI 1000000) ∨ (¬ y4' = -4 ∧ z4' = y5')) → w2 (C_spare_43 (nI N) x2 x3 fu y4' y5' (nI (r + 1)) u.2) (M_spare_47 (nI N) x2 x3 fu' z4' y4' (nI (r + 1)) v.2) (fun a b => a.1 = b.1) := fun y4' y5' z4' hi' => by
        refine K_spare hN H0 e9 hh hx n (r + 1) fu fu' u.2 v.2 y4' y5' z4' (fun p hp' => ?_) ?_ (fun i hi => ?_) hi' (by omega) (by omega) (by omega)
        · rw [k3 p (by omega), ← hS, up_off (by omega), up_off (by omega), cpH_off p (by omega)]; exact oS p hp'
        · rw [oV 10 1 (by omega) (by decide) (by omega)]; exact eT
        · rw [← hp i hi, pg0, pg0, oV 11 i (by omega) (by decide) (by omega)]; exact oT i hi
      by_cases cm : mnV R N (pgc T 260) (nI 99) < x2
      · rw [if_pos cm, k1 cm, if_pos rfl]
        unfold M_spare_111 M_spare_112 M_spare_126
        rw [if_pos (by decide), if_pos (by decide), nI_add]
        exact next _ _ _ hi
      · have eu1 := k2 cm
        obtain ⟨_, c0, hc0, d0⟩ := H2.bu
        obtain ⟨c1, a1, a2, a3⟩ := hoursV_50 h6 N c0 (pgc T 260) hc0 d0
        have ev1 : v.1 = u.1 := by rw [g2, eu1, e50', t50]
        have uN : u.1 = nI (c1 - c0) := by rw [eu1, a3, d0, pk_sub a1]
        have n4 : ¬ u.1 = -4 := fun z => absurd (nI_pos (n := c1 - c0) (by omega)) (by rw [← uN, z]; decide)
        rw [if_neg cm, if_neg n4, ev1]
        have nr : ¬ nI r = -4 := fun z => absurd (nI_pos (n := r) (by omega)) (by rw [z]; decide)
        have lt : (u.1 < y5) ↔ (u.1 < z4) := by
          rcases hi with ⟨_, b2, b3⟩ | ⟨_, b2⟩
          · rw [b2, b3, uN, nI_ltI (by omega) (by decide), nI_ltI (by omega) (by decide)]
            omega
          · rw [b2]
        by_cases d : u.1 < y5
        · rw [if_pos d, if_pos (lt.mp d)]
          unfold M_spare_112 M_spare_126
          rw [if_neg (by decide), if_neg (by decide), nI_add]
          exact next _ _ _ (Or.inr ⟨nr, rfl⟩)
        · rw [if_neg d, if_neg (fun z => d (lt.mpr z))]
          unfold M_spare_111 M_spare_112 M_spare_126
          rw [if_pos (by decide), if_pos (by decide), nI_add]
          exact next _ _ _ hi
    · rw [if_neg (fun z => c ((nI_ltI (by omega) (by omega)).mp z)), if_neg (fun z => c ((nI_ltI (by omega) (by omega)).mp z)), C_ch]
      refine w2sl ?_
      rcases hi with ⟨b1, b2, b3⟩ | ⟨b1, b2⟩
      · rw [if_pos b1, if_pos b1]; exact w2s b1.symm
      · rw [if_neg b1, if_neg b1, b2]
        by_cases d : x3 = 0
        · rw [if_pos d, if_pos d]; exact w2s rfl
        · rw [if_neg d, if_neg d]; exact w2s rfl
theorem J_spare (F : RF s t) : w2 (C_spare x1 x2 x3 s) (M_spare x1 x2 x3 t) (fun a b => a.1 = b.1) := by
  obtain ⟨⟨R, G⟩, I, M⟩ := F
  have H := G.h
  have h6 := H.r6
  obtain ⟨R', h, hh, Hs⟩ := I.1
  unfold C_spare M_spare
  refine w2P within_eq (inP (by decide) (by decide)) (fun _ => w2s rfl) (fun c1 => ?_)
  obtain ⟨N, hN, rfl⟩ := in_j (by decide) c1
  refine w2P within_eq (inP (by decide) (by decide)) (fun _ => w2s rfl) (fun c2 => ?_)
  refine w2P within_eq (inP (by decide) (by decide)) (fun _ => w2s rfl) (fun c3 => ?_)
  exact K_spare (s0 := s) (by omega) H (G.hh Hs) hh c2.2 R 0 FU FU s t _ _ _ (fun _ _ => rfl) G.r (fun _ _ => rfl) (Or.inl ⟨rfl, rfl, rfl⟩) (by omega) (by show R < 100000; omega) (by show R < 100000; omega)
/-! skies by a seed -/
theorem rnd_eq (z : Int32) : ((z.toUInt32 >>> ((nI 16).toUInt32 &&& Int32.toUInt32 31)).toInt32) &&& (nI 32767) = (z >>> ((nI 16) &&& 31)) &&& (nI 32767) := by
  rw [pk_and _ 15 (by decide), pk_and _ 15 (by decide), pk_ushr z (nI 16) 16 (by decide)]
  have h := pk_shr z (nI 16 &&& 31) 16 (by decide)
  have hx := z.toBitVec.isLt
  have hy := (z >>> (nI 16 &&& 31)).toBitVec.isLt
  have e1 : z.toInt = z.toBitVec.toInt := rfl
  have e2 : (z >>> (nI 16 &&& 31)).toInt = (z >>> (nI 16 &&& 31)).toBitVec.toInt := rfl
  rw [e1, e2, BitVec.toInt_eq_toNat_cond, BitVec.toInt_eq_toNat_cond, Int.shiftRight_eq_div_pow] at h
  congr 1
  split at h <;> split at h <;> omega
theorem K_drift (hN : N < 1000) : ∀ (n r fu fu' : Nat) (s t : sg) (y : Int32), HR s 53 (pg t 208) R → t 10 1 = nI R → s 11 3 = t 11 50 → r + n = N → n < fu → n < fu' → w2 (C_drift_46 (nI N) x3 fu y (nI r) s) (M_drift_48 (nI N) x3 fu' y (nI r) t) (fun a b => a.1 = b.1)
  | n, r, 0, fu', s, t, y, H, e, e50, hr, hf, hf' => absurd hf (by omega)
  | n, r, fu + 1, 0, s, t, y, H, e, e50, hr, hf, hf' => absurd hf' (by omega)
  | n, r, fu + 1, fu' + 1, s, t, y, H, e, e50, hr, hf, hf' => by
    have h6 := H.r6
    rw [C_drift_46, M_drift_48, nI_add, rnd_eq]
    refine w2i (fun c => ?_) (fun _ => ?_)
    · have hc := (nI_ltI (by omega) (by omega)).mp c
      refine w2bl (X_passHourBy H) (fun s1 h1 => w2br (Y_hourOn (by decide) h6 e) (fun t1 g1 => ?_))
      refine K_drift hN (n - 1) (r + 1) fu fu' s1 t1 _ (by rw [g1.1]; exact h1.1) ((g1.2 10 1 (by omega) (by decide)).trans e) ?_ (by omega) (by omega) (by omega)
      rw [h1.2 11 (by omega), g1.2 11 50 (by omega) (by decide)]; exact e50
    · refine w2i (fun _ => ?_) (fun _ => ?_)
      · refine w2r rfl (by decide) (by decide) (w2r rfl (by decide) (by decide) (w2s ?_))
        show s 53 3 - s 11 3 = t 11 (208 + 50) - t 11 50
        have z1 : s 53 3 = t 11 (208 + 50) := H.bu.1
        rw [z1, e50]
      · rw [warm_eq H, Y_warmthOn e h6 (by decide)]
        exact w2s rfl
theorem J_drift (F : RF s t) : w2 (C_drift x1 x2 x3 s) (M_drift x1 x2 x3 t) (fun a b => a.1 = b.1) := by
  obtain ⟨⟨R, G⟩, I, M⟩ := F
  have H := G.h
  have h6 := H.r6
  unfold C_drift M_drift
  refine w2P within_eq (inP (by decide) (by decide)) (fun _ => w2s rfl) (fun c1 => ?_)
  obtain ⟨N, _, hN, rfl⟩ := in_nI (by decide) c1 (by decide)
  refine w2P within_eq (inP (by decide) (by decide)) (fun _ => w2s rfl) (fun c2 => ?_)
  rw [H.rm, G.r]
  refine w2i (fun _ => w2s rfl) (fun _ => ?_)
  rw [cpNow_eq, copies_eq (by decide) (by decide) (by omega)]
  refine w2sl (w2sr (K_drift (by omega) N 0 FU FU _ _ _ G.cp53 ((cpM_ne (Or.inl (by decide))).trans G.r) ?_ (by omega) (by show N < 100000; omega) (by show N < 100000; omega)))
  rw [congrFun (cpH_off 11 (by omega)) 3, H.bu.1, pg0, cpM_ne (by omega)]
end TRIAL
end Q86
section Q88
/-! what was felt, by both -/
section FELTJ
variable {s t s0 S T : sg} {b R p N h m : Nat} {g g' : Nat → Int32} {x x1 x2 x3 x4 : Int32}
/-- the feelings of hour k, from the e-th on, hold at the page g -/
def atP (s : sg) (m e k : Nat) (g : Nat → Int32) : Prop := ∀ i, e ≤ i → i < m → s 24 i = nI k → ∀ w : Nat, w < 6 → s 25 i = nI w → g w = s 26 i
/-- feelings as both hold them -/
def FF (s t : sg) (m R : Nat) : Prop := m ≤ 6 ∧ s 23 3 = nI m ∧ t 10 22 = nI m ∧ ∀ i, i < m → (s 24 i = t 17 (3 * i) ∧ s 25 i = t 17 (3 * i + 1) ∧ s 26 i = t 17 (3 * i + 2)) ∧ (∃ w : Nat, w < R ∧ s 25 i = nI w) ∧ ∃ a : Nat, a ≤ 20 ∧ s 24 i = nI a
theorem X_hold2 (H : HR s b g R) (F : FF s t m R) {k : Nat} : ∀ (n e fu : Nat), e + n = m → n < fu → (atP s m e k g → F_holdAt_2 b (nI k) s fu (nI e) = some (nI 1)) ∧ (¬ atP s m e k g → F_holdAt_2 b (nI k) s fu (nI e) = some (nI 0))
  | n, e, 0, hr, hf => absurd hf (by omega)
  | n, e, fu + 1, hr, hf => by
    have h6 := H.r6
    have hm := F.1
    rw [F_holdAt_2, F.2.1]
    by_cases c : e < m
    · obtain ⟨_, ⟨w, hw, ew⟩, a, ha, ea⟩ := F.2.2.2 e c
      obtain ⟨i1, i2⟩ := X_hold2 H F (k := k) (n - 1) (e + 1) fu (by omega) (by omega)
      have sp : atP s m e k g ↔ ((s 24 e = nI k → g w = s 26 e) ∧ atP s m (e + 1) k g) := by
        constructor
        · intro z
          exact ⟨fun y => z e (Nat.le_refl _) c y w (by omega) ew, fun i a1 a2 => z i (by omega) a2⟩
        · rintro ⟨z1, z2⟩ i a1 a2 y w' hw' ew'
          by_cases q : i = e
          · subst q
            rw [ew, nI_eq (by omega) (by omega)] at ew'
            rw [← ew']; exact z1 y
          · exact z2 i (by omega) a2 y w' hw' ew'
      rw [if_pos ((nI_ltI (by omega) (by omega)).mpr c), midx_nI (by omega) (by decide), nI_add]
      have ee : ((some e).bind fun j1 => if s 24 j1 = nI k then (some e).bind fun j2 => (midx (s 25 j2) 6).bind fun j3 => (some e).bind fun j4 => if s (b + 1) j3 = s 26 j4 then F_holdAt_2 b (nI k) s fu (nI (e + 1)) else some (nI 0) else F_holdAt_2 b (nI k) s fu (nI (e + 1))) = if s 24 e = nI k then (if g w = s 26 e then F_holdAt_2 b (nI k) s fu (nI (e + 1)) else some (nI 0)) else F_holdAt_2 b (nI k) s fu (nI (e + 1)) := by
        show (if s 24 e = nI k then (midx (s 25 e) 6).bind (fun j3 => if s (b + 1) j3 = s 26 e then F_holdAt_2 b (nI k) s fu (nI (e + 1)) else some (nI 0)) else F_holdAt_2 b (nI k) s fu (nI (e + 1))) = _
        rw [ew, midx_nI (by omega) (by decide), ← H.w hw]; rfl
      rw [ee]
      by_cases d : s 24 e = nI k
      · rw [if_pos d]
        by_cases f : g w = s 26 e
        · rw [if_pos f]
          exact ⟨fun z => i1 (sp.mp z).2, fun z => i2 (fun y => z (sp.mpr ⟨fun _ => f, y⟩))⟩
        · rw [if_neg f]
          exact ⟨fun z => absurd ((sp.mp z).1 d) f, fun _ => rfl⟩
      · rw [if_neg d]
        exact ⟨fun z => i1 (sp.mp z).2, fun z => i2 (fun y => z (sp.mpr ⟨fun q => absurd q d, y⟩))⟩
    · rw [if_neg (fun z => c ((nI_ltI (by omega) (by omega)).mp z))]
      exact ⟨fun _ => rfl, fun z => absurd (fun i a1 a2 => absurd a2 (by omega)) z⟩
theorem FF.off {S' : sg} (F : FF s t m R) (h1 : S' 23 = s 23) (h2 : S' 24 = s 24) (h3 : S' 25 = s 25) (h4 : S' 26 = s 26) : FF S' t m R := by
  unfold FF
  rw [h1, h2, h3, h4]
  exact F
theorem atP.off {S' : sg} {e k : Nat} (h2 : S' 24 = s 24) (h3 : S' 25 = s 25) (h4 : S' 26 = s 26) : atP S' m e k g ↔ atP s m e k g := by
  unfold atP
  rw [h2, h3, h4]
theorem X_holdIn {L : Nat} (hL : L ≤ 20) : ∀ (n k fu : Nat) (S : sg) (g : Nat → Int32) (h : Nat), (∀ p, 23 ≤ p → p ≤ 26 → S p = s p) → FF s t m R → HR S 53 g R → g 49 = nI h → h + n < 2 ^ 29 → k + n = L + 1 → n < fu → wp (F_holdIn_7 53 (nI L) fu (nI k) S) (fun v => ((∀ k', k ≤ k' → k' ≤ L → atP s m 0 k' (hoursV R (k' - k) g)) → v.1 = nI 1) ∧ (¬ (∀ k', k ≤ k' → k' ≤ L → atP s m 0 k' (hoursV R (k' - k) g)) → v.1 = nI 0) ∧ offH 53 S v.2)
  | n, k, 0, S, g, h, o, F, H, e, hh, hr, hf => absurd hf (by omega)
  | n, k, fu + 1, S, g, h, o, F, H, e, hh, hr, hf => by
    have h6 := H.r6
    have FS : FF S t m R := F.off (o 23 (by decide) (by decide)) (o 24 (by decide) (by decide)) (o 25 (by decide) (by decide)) (o 26 (by decide) (by decide))
    have aS : ∀ k' g', atP S m 0 k' g' ↔ atP s m 0 k' g' := fun k' g' => atP.off (o 24 (by decide) (by decide)) (o 25 (by decide) (by decide)) (o 26 (by decide) (by decide))
    rw [F_holdIn_7]
    refine wi (fun c => ?_) (fun c => ?_)
    · have hc := (nI_ltI (by omega) (by omega)).mp c
      exact ws ⟨fun _ => rfl, fun z => absurd (fun k' a1 a2 => absurd a2 (by omega)) z, offH.rf⟩
    · have hc : ¬ L < k := fun z => c ((nI_ltI (by omega) (by omega)).mpr z)
      obtain ⟨n, rfl⟩ : ∃ q, n = q + 1 := ⟨n - 1, by omega⟩
      have hm := F.1
      obtain ⟨i1, i2⟩ := X_hold2 H FS (k := k) m 0 FU (by omega) (by show m < 100000; omega)
      have e0 : k - k = 0 := by omega
      unfold F_holdAt
      by_cases d : atP S m 0 k g
      · rw [i1 d]
        refine wsb ?_
        rw [if_neg (by decide), nI_add]
        refine wb (X_passHour H e (by omega)) (fun S1 h1 => ?_)
        refine wc (X_holdIn hL n (k + 1) fu S1 (nextV R g) (h + 1) (fun p a1 a2 => (h1.2 p (by omega)).trans (o p a1 a2)) F h1.1 (nextV_49 h6 e) (by omega) (by omega) (by omega)) (fun v hv => ?_)
        have sp : (∀ k', k ≤ k' → k' ≤ L → atP s m 0 k' (hoursV R (k' - k) g)) ↔ (∀ k', k + 1 ≤ k' → k' ≤ L → atP s m 0 k' (hoursV R (k' - (k + 1)) (nextV R g))) := by
          constructor
          · intro z k' a1 a2
            have y := z k' (by omega) a2
            rw [show k' - k = (k' - (k + 1)) + 1 by omega] at y
            exact y
          · intro z k' a1 a2
            by_cases q : k' = k
            · subst q
              rw [e0]
              exact (aS _ _).mp d
            · have y := z k' (by omega) a2
              rw [show k' - k = (k' - (k + 1)) + 1 by omega]
              exact y
        exact ⟨fun z => hv.1 (sp.mp z), fun z => hv.2.1 (fun y => z (sp.mpr y)), h1.2.tr hv.2.2⟩
      · rw [i2 d]
        refine wsb ?_
        rw [if_pos (by decide)]
        refine ws ⟨fun z => absurd ((aS _ _).mpr ?_) d, fun _ => rfl, offH.rf⟩
        have y := z k (Nat.le_refl _) (by omega)
        rw [e0] at y
        exact y
theorem X_last (F : FF s t m R) : ∀ (n e fu y : Nat), y ≤ 20 → e + n = m → n < fu → wp (F_lastHour_4 s fu (nI y) (nI e)) (fun v => ∃ L : Nat, L ≤ 20 ∧ v = nI L ∧ y ≤ L ∧ ∀ i, e ≤ i → i < m → ∀ a : Nat, a ≤ 20 → s 24 i = nI a → a ≤ L)
  | n, e, 0, y, hy, hr, hf => absurd hf (by omega)
  | n, e, fu + 1, y, hy, hr, hf => by
    have hm := F.1
    rw [F_lastHour_4, F.2.1]
    refine wi (fun c => ?_) (fun c => ?_)
    · have hc := (nI_ltI (by omega) (by omega)).mp c
      obtain ⟨_, _, a, ha, ea⟩ := F.2.2.2 e hc
      refine wm rfl (by omega) (by decide) ?_
      rw [nI_add, ea]
      have e2 : (if nI y < nI a then nI a else nI y) = nI (if y < a then a else y) := by
        by_cases d : y < a
        · rw [if_pos ((nI_ltI (by omega) (by omega)).mpr d), if_pos d]
        · rw [if_neg (fun z => d ((nI_ltI (by omega) (by omega)).mp z)), if_neg d]
      rw [e2]
      have hb : (if y < a then a else y) ≤ 20 ∧ y ≤ (if y < a then a else y) ∧ a ≤ (if y < a then a else y) := by
        by_cases d : y < a
        · rw [if_pos d]; omega
        · rw [if_neg d]; omega
      refine wc (X_last F (n - 1) (e + 1) fu _ hb.1 (by omega) (by omega)) (fun v hv => ?_)
      obtain ⟨L, l1, l2, l3, l4⟩ := hv
      refine ⟨L, l1, l2, by omega, fun i a1 a2 a' ha' ea' => ?_⟩
      by_cases q : i = e
      · subst q
        rw [ea, nI_eq (by omega) (by omega)] at ea'
        omega
      · exact l4 i (by omega) a2 a' ha' ea'
    · have hc : ¬ e < m := fun z => c ((nI_ltI (by omega) (by omega)).mpr z)
      exact ws ⟨y, hy, rfl, Nat.le_refl _, fun i a1 a2 => absurd a2 (by omega)⟩
/-- the class: do the feelings hold in the house at 53? -/
theorem X_felt (o : ∀ p, 23 ≤ p → p ≤ 26 → S p = s p) (F : FF s t m R) (H : HR S 53 g R) (e : g 49 = nI h) (hh : h ≤ 999) : wp (F_holdIn 53 S) (fun v => ((∀ k', k' ≤ 20 → atP s m 0 k' (hoursV R k' g)) → v.1 = nI 1) ∧ (¬ (∀ k', k' ≤ 20 → atP s m 0 k' (hoursV R k' g)) → v.1 = nI 0) ∧ offH 53 S v.2) := by
  have hm := F.1
  have FS : FF S t m R := F.off (o 23 (by decide) (by decide)) (o 24 (by decide) (by decide)) (o 25 (by decide) (by decide)) (o 26 (by decide) (by decide))
  unfold F_holdIn F_lastHour
  refine wb (X_last FS m 0 FU 0 (by decide) (by omega) (by show m < 100000; omega)) (fun v hv => ?_)
  obtain ⟨L, l1, rfl, _, l4⟩ := hv
  refine wc (X_holdIn l1 (L + 1) 0 FU S g h o F H e (by omega) (by omega) (by show L + 1 < 100000; omega)) (fun v hv => ?_)
  have sp : (∀ k', 0 ≤ k' → k' ≤ L → atP s m 0 k' (hoursV R (k' - 0) g)) ↔ (∀ k', k' ≤ 20 → atP s m 0 k' (hoursV R k' g)) := by
    constructor
    · intro z k' a1 i b1 b2 b3
      have hk : k' ≤ L := l4 i b1 b2 k' a1 (by rw [o 24 (by decide) (by decide)]; exact b3)
      exact z k' (by omega) hk i b1 b2 b3
    · intro z k' _ a2
      exact z k' (by omega)
  exact ⟨fun z => hv.1 (sp.mpr z), fun z => hv.2.1 (fun y => z (sp.mp y)), hv.2.2⟩
/-! the reference: do the feelings hold on page 0? -/
theorem Y_67 {k12 : Int32 → Int32 → sg → Option (Int32 × sg)} {k : Nat} (F : FF s t m R) (hR : R ≤ 6) : ∀ (n e fu : Nat), e + n = m → n < fu → M_isAsSeen_67 k12 x1 (nI k) fu (nI 0) (nI e) t = (M_goesOn (nI 208) t).bind (fun s1 => k12 (nI 0) (nI k + nI 1) s1) ∧ (atP s m e k (pg t 208) → M_isAsSeen_67 k12 x1 (nI k) fu (nI 1) (nI e) t = (M_goesOn (nI 208) t).bind (fun s1 => k12 (nI 1) (nI k + nI 1) s1)) ∧ (¬ atP s m e k (pg t 208) → M_isAsSeen_67 k12 x1 (nI k) fu (nI 1) (nI e) t = (M_goesOn (nI 208) t).bind (fun s1 => k12 (nI 0) (nI k + nI 1) s1))
  | n, e, 0, hr, hf => absurd hf (by omega)
  | n, e, fu + 1, hr, hf => by
    have hm := F.1
    rw [M_isAsSeen_67, M_isAsSeen_67, F.2.2.1]
    by_cases c : e < m
    · obtain ⟨⟨f1, f2, f3⟩, ⟨w, hw, ew⟩, a, ha, ea⟩ := F.2.2.2 e c
      obtain ⟨i0, i1, i2⟩ := Y_67 (k12 := k12) F hR (n - 1) (e + 1) fu (by omega) (by omega)
      have sp : atP s m e k (pg t 208) ↔ ((s 24 e = nI k → pg t 208 w = s 26 e) ∧ atP s m (e + 1) k (pg t 208)) := by
        constructor
        · intro z
          exact ⟨fun y => z e (Nat.le_refl _) c y w (by omega) ew, fun i a1 a2 => z i (by omega) a2⟩
        · rintro ⟨z1, z2⟩ i a1 a2 y w' hw' ew'
          by_cases q : i = e
          · subst q
            rw [ew, nI_eq (by omega) (by omega)] at ew'
            rw [← ew']; exact z1 y
          · exact z2 i (by omega) a2 y w' hw' ew'
      rw [if_pos ((nI_ltI (by omega) (by omega)).mpr c), if_pos (show nI 0 = 0 from rfl), if_pos ((nI_ltI (by omega) (by omega)).mpr c), if_neg (show ¬ nI 1 = 0 by decide), nI_add]
      have ee : ((midx (nI 3 * nI e) 18).bind fun j1 => if t 17 j1 = nI k then (midx (nI 3 * nI e + nI 1) 18).bind fun j2 => (midx (nI 208 + t 17 j2) 312).bind fun j3 => (midx (nI 3 * nI e + nI 2) 18).bind fun j4 => if t 11 j3 = t 17 j4 then M_isAsSeen_127 k12 (M_isAsSeen_67 k12 x1 (nI k) fu) x1 (nI k) (nI e) t else M_isAsSeen_67 k12 x1 (nI k) fu (nI 0) (nI (e + 1)) t else M_isAsSeen_127 k12 (M_isAsSeen_67 k12 x1 (nI k) fu) x1 (nI k) (nI e) t) = if s 24 e = nI k then (if pg t 208 w = s 26 e then M_isAsSeen_67 k12 x1 (nI k) fu (nI 1) (nI (e + 1)) t else M_isAsSeen_67 k12 x1 (nI k) fu (nI 0) (nI (e + 1)) t) else M_isAsSeen_67 k12 x1 (nI k) fu (nI 1) (nI (e + 1)) t := by
        unfold M_isAsSeen_127
        rw [pk_mul, nI_add, nI_add, nI_add, midx_nI (show 3 * e < 18 by omega) (by decide), midx_nI (show 3 * e + 1 < 18 by omega) (by decide), midx_nI (show 3 * e + 2 < 18 by omega) (by decide)]
        show (if t 17 (3 * e) = nI k then (midx (nI 208 + t 17 (3 * e + 1)) 312).bind (fun j3 => if t 11 j3 = t 17 (3 * e + 2) then M_isAsSeen_67 k12 x1 (nI k) fu (nI 1) (nI (e + 1)) t else M_isAsSeen_67 k12 x1 (nI k) fu (nI 0) (nI (e + 1)) t) else M_isAsSeen_67 k12 x1 (nI k) fu (nI 1) (nI (e + 1)) t) = _
        rw [← f1, ← f2, ← f3, ew, nI_add, midx_nI (show 208 + w < 312 by omega) (by decide)]
        rfl
      rw [ee]
      refine ⟨i0, ?_⟩
      by_cases d : s 24 e = nI k
      · rw [if_pos d]
        by_cases f : pg t 208 w = s 26 e
        · rw [if_pos f]
          exact ⟨fun z => i1 (sp.mp z).2, fun z => i2 (fun y => z (sp.mpr ⟨fun _ => f, y⟩))⟩
        · rw [if_neg f]
          exact ⟨fun z => absurd ((sp.mp z).1 d) f, fun _ => i0⟩
      · rw [if_neg d]
        exact ⟨fun z => i1 (sp.mp z).2, fun z => i2 (fun y => z (sp.mpr ⟨fun q => absurd q d, y⟩))⟩
    · rw [if_neg (fun z => c ((nI_ltI (by omega) (by omega)).mp z)), if_neg (fun z => c ((nI_ltI (by omega) (by omega)).mp z))]
      exact ⟨rfl, fun _ => rfl, fun z => absurd (fun i a1 a2 => absurd a2 (by omega)) z⟩
def offI (t t' : sg) : Prop := ∀ p j, p ≠ 18 → p ≠ 16 → ¬ (p = 11 ∧ 208 ≤ j ∧ j < 260) → t' p j = t p j
theorem offI.rf : offI t t := fun _ _ _ _ _ => rfl
theorem offI.tr {t' t'' : sg} (h1 : offI t t') (h2 : offI t' t'') : offI t t'' := fun p j a b c => (h2 p j a b c).trans (h1 p j a b c)
theorem FF.tt {t' : sg} (F : FF s t m R) (o : offI t t') : FF s t' m R := by
  refine ⟨F.1, F.2.1, (o 10 22 (by decide) (by decide) (by omega)).trans F.2.2.1, fun i hi => ?_⟩
  rw [o 17 _ (by decide) (by decide) (by omega), o 17 _ (by decide) (by decide) (by omega), o 17 _ (by decide) (by decide) (by omega)]
  exact F.2.2.2 i hi
theorem FF.e {t' : sg} (F : FF s t m R) (h1 : t' 10 22 = t 10 22) (h2 : t' 17 = t 17) : FF s t' m R := by
  refine ⟨F.1, F.2.1, h1.trans F.2.2.1, fun i hi => ?_⟩
  rw [h2]
  exact F.2.2.2 i hi
theorem Y_21 {k12 : Int32 → Int32 → sg → Option (Int32 × sg)} {a k : Nat} {f : Int32} (ha : a < 10) (hk : k ≤ 20) (hR : R ≤ 6) : ∀ (n r fu : Nat) (t : sg), t 10 1 = nI R → r + n = R → n < fu → ∃ t', M_isAsSeen_21 k12 (nI a) f (nI k) fu (nI r) t = M_isAsSeen_67 k12 (nI a) (nI k) FU f (nI 0) t' ∧ (∀ p, p ≠ 18 → t' p = t p) ∧ (∀ q, r ≤ q → q < R → t' 18 (126 * a + 6 * k + q) = pg t 208 q) ∧ (∀ j, ¬ (126 * a + 6 * k + r ≤ j ∧ j < 126 * a + 6 * k + R) → t' 18 j = t 18 j)
  | n, r, 0, t, e, hr, hf => absurd hf (by omega)
  | n, r, fu + 1, t, e, hr, hf => by
    rw [M_isAsSeen_21, e]
    by_cases c : r < R
    · rw [if_pos ((nI_ltI (by omega) (by omega)).mpr c), nI_add, midx_nI (by omega) (by decide), pk_mul, pk_mul, nI_add, nI_add, midx_nI (by omega) (by decide), nI_add]
      obtain ⟨t', a1, a2, a3, a4⟩ := Y_21 (k12 := k12) (f := f) ha hk hR (n - 1) (r + 1) fu (up t 18 (126 * a + 6 * k + r) (t 11 (208 + r))) ((up_p (by decide)).trans e) (by omega) (by omega)
      refine ⟨t', a1, fun p hp => (a2 p hp).trans (up_off hp), fun q q1 q2 => ?_, fun j hj => ?_⟩
      · by_cases z : q = r
        · subst z
          rw [a4 _ (by omega), up_eq]; rfl
        · rw [a3 q (by omega) q2]
          show (up t 18 (126 * a + 6 * k + r) (t 11 (208 + r))) 11 (208 + q) = t 11 (208 + q)
          rw [up_p (by decide)]
      · rw [a4 j (by omega), up_k (by omega)]
    · rw [if_neg (fun z => c ((nI_ltI (by omega) (by omega)).mp z))]
      exact ⟨t, rfl, fun _ _ => rfl, fun q q1 q2 => absurd q2 (by omega), fun _ _ => rfl⟩
/-- what isAsSeen leaves, from hour k on -/
def QS (s : sg) (m R a k : Nat) (t : sg) (f : Int32) (v : Int32 × sg) : Prop := (f = nI 1 → (∀ k', k ≤ k' → k' ≤ 20 → atP s m 0 k' (hoursV R (k' - k) (pg t 208))) → v.1 = nI 1) ∧ (¬ (f = nI 1 ∧ ∀ k', k ≤ k' → k' ≤ 20 → atP s m 0 k' (hoursV R (k' - k) (pg t 208))) → v.1 = nI 0) ∧ (∀ k', k ≤ k' → k' ≤ 20 → ∀ q, q < R → v.2 18 (126 * a + 6 * k' + q) = hoursV R (k' - k) (pg t 208) q) ∧ (∀ j, ¬ (126 * a + 6 * k ≤ j ∧ j < 126 * a + 126) → v.2 18 j = t 18 j) ∧ offI t v.2
theorem Y_12 {a : Nat} (ha : a < 10) (hR : R ≤ 6) : ∀ (n k fu h : Nat) (f : Int32) (t : sg), (f = nI 0 ∨ f = nI 1) → FF s t m R → t 10 1 = nI R → pg t 208 49 = nI h → h + n < 2 ^ 29 → k + n = 21 → n < fu → wp (M_isAsSeen_12 (nI a) fu f (nI k) t) (QS s m R a k t f)
  | n, k, 0, h, f, t, hf1, F, e, e9, hh, hr, hf => absurd hf (by omega)
  | n, k, fu + 1, h, f, t, hf1, F, e, e9, hh, hr, hf => by
    have hm := F.1
    rw [M_isAsSeen_12]
    refine wi (fun c => ?_) (fun c => ?_)
    · have hc := (nI_ltI (by decide) (by omega)).mp c
      have hf2 : f = 0 ∨ f = 1 := hf1
      rw [if_pos hf2]
      refine ws ⟨fun z _ => z, fun z => ?_, fun k' a1 a2 => absurd a2 (by omega), fun _ _ => rfl, offI.rf⟩
      rcases hf1 with w | w
      · exact w
      · exact absurd ⟨w, fun k' a1 a2 => absurd a2 (by omega)⟩ z
    · have hc : ¬ 20 < k := fun z => c ((nI_ltI (by decide) (by omega)).mpr z)
      obtain ⟨n, rfl⟩ : ∃ q, n = q + 1 := ⟨n - 1, by omega⟩
      obtain ⟨t1, a1, a2, a3, a4⟩ := Y_21 (k12 := M_isAsSeen_12 (nI a) fu) (f := f) (k := k) ha (by omega) hR R 0 FU t e (by omega) (by show R < 100000; omega)
      rw [a1]
      have o1 : offI t t1 := fun p j p1 _ _ => by rw [a2 p p1]
      have F1 : FF s t1 m R := F.tt o1
      have e1 : t1 10 1 = nI R := by rw [a2 10 (by decide)]; exact e
      have p1 : pg t1 208 = pg t 208 := pgE (a2 11 (by decide))
      obtain ⟨y0, y1, y2⟩ := Y_67 (k12 := M_isAsSeen_12 (nI a) fu) (x1 := nI a) (k := k) F1 hR m 0 FU (by omega) (by show m < 100000; omega)
      obtain ⟨t2, et, g2, o2⟩ := Y_goesOn (t := t1) (p := 208) (by decide) hR e1 (by rw [p1]; exact e9) (by omega)
      have o2' : offI t1 t2 := fun p j _ q2 q3 => o2 p j (by omega) q2
      have F2 : FF s t2 m R := F1.tt o2'
      have e2 : t2 10 1 = nI R := (o2 10 1 (by omega) (by decide)).trans e1
      have g2' : pg t2 208 = nextV R (pg t 208) := by rw [g2, p1]
      have t18 : ∀ j, t2 18 j = t1 18 j := fun j => o2 18 j (by omega) (by decide)
      have e0 : k - k = 0 := by omega
      have sp : (∀ k', k ≤ k' → k' ≤ 20 → atP s m 0 k' (hoursV R (k' - k) (pg t 208))) ↔ (atP s m 0 k (pg t 208) ∧ ∀ k', k + 1 ≤ k' → k' ≤ 20 → atP s m 0 k' (hoursV R (k' - (k + 1)) (nextV R (pg t 208)))) := by
        constructor
        · intro z
          refine ⟨?_, fun k' b1 b2 => ?_⟩
          · have y := z k (Nat.le_refl _) (by omega)
            rw [e0] at y
            exact y
          · have y := z k' (by omega) b2
            rw [show k' - k = (k' - (k + 1)) + 1 by omega] at y
            exact y
        · rintro ⟨z1, z2⟩ k' b1 b2
          by_cases q : k' = k
          · subst q
            rw [e0]; exact z1
          · have y := z2 k' (by omega) b2
            rw [show k' - k = (k' - (k + 1)) + 1 by omega]
            exact y
      have rest : ∀ f' : Int32, (f' = nI 0 ∨ f' = nI 1) → (f' = nI 1 ↔ (f = nI 1 ∧ atP s m 0 k (pg t 208))) → wp ((M_goesOn (nI 208) t1).bind (fun s1 => M_isAsSeen_12 (nI a) fu f' (nI k + nI 1) s1)) (QS s m R a k t f) := fun f' hf' hi => by
        rw [et, nI_add]
        refine wsb (wc (Y_12 ha hR n (k + 1) fu (h + 1) f' t2 hf' F2 e2 (by rw [g2']; exact nextV_49 hR e9) (by omega) (by omega) (by omega)) (fun v hv => ?_))
        unfold QS at hv ⊢
        rw [g2'] at hv
        refine ⟨fun z1 z2 => hv.1 (hi.mpr ⟨z1, (sp.mp z2).1⟩) (sp.mp z2).2, fun z => hv.2.1 (fun y => z ⟨(hi.mp y.1).1, sp.mpr ⟨(hi.mp y.1).2, y.2⟩⟩), fun k' b1 b2 q hq => ?_, fun j hj => ?_, o1.tr (o2'.tr hv.2.2.2.2)⟩
        · by_cases w : k' = k
          · subst w
            rw [hv.2.2.2.1 _ (by omega), t18, a3 q (by omega) hq, e0]; rfl
          · rw [hv.2.2.1 k' (by omega) b2 q hq, show k' - k = (k' - (k + 1)) + 1 by omega]; rfl
        · rw [hv.2.2.2.1 j (by omega), t18, a4 j (by omega)]
      rcases hf1 with w | w
      · rw [w] at rest ⊢
        rw [y0]
        exact rest _ (Or.inl rfl) ⟨fun z => absurd z (by decide), fun z => absurd z.1 (by decide)⟩
      · rw [w] at rest ⊢
        rw [p1] at y1 y2
        by_cases d : atP s m 0 k (pg t 208)
        · rw [y1 d]
          exact rest _ (Or.inr rfl) ⟨fun _ => ⟨rfl, d⟩, fun _ => rfl⟩
        · rw [y2 d]
          exact rest _ (Or.inl rfl) ⟨fun z => absurd z (by decide), fun z => absurd z.2 d⟩
/-- one candidate: both ask the same of it -/
theorem K_cand {a : Nat} (ha : a < 10) (o : ∀ p, 23 ≤ p → p ≤ 26 → S p = s p) (F : FF s T m R) (H : HR S 53 g' R) (e : T 10 1 = nI R) (ep : ∀ i, i < 52 → pg T 0 i = g' i) (e9 : g' 49 = nI h) (hh : h ≤ 999) : w2 (F_holdIn 53 S) (M_isAsSeen (nI a) T) (fun u v => u.1 = v.1 ∧ (u.1 = nI 0 ∨ u.1 = nI 1) ∧ offH 53 S u.2 ∧ offI T v.2 ∧ (∀ k', k' ≤ 20 → ∀ q, q < R → v.2 18 (126 * a + 6 * k' + q) = hoursV R k' (pgc T 0) q) ∧ (∀ j, ¬ (126 * a ≤ j ∧ j < 126 * a + 126) → v.2 18 j = T 18 j)) := by
  have h6 := H.r6
  have H2 : HR S 53 (pgc T 0) R := HR.e H (fun i hi => by rw [pgc_e hi]; exact ep i hi)
  have e9' : pgc T 0 49 = nI h := by rw [pgc_e (by decide), ep 49 (by decide)]; exact e9
  unfold M_isAsSeen
  rw [copies_eq (by decide) (by decide) (by omega)]
  refine w2sr ?_
  have oc : offI T (cpM T 0 208 52) := fun p j _ _ q => cpM_ne (by omega)
  refine w2.mk (X_felt o F H2 e9' hh) (Y_12 (s := s) (m := m) (R := R) ha h6 21 0 FU h (nI 1) (cpM T 0 208 52) (Or.inr rfl) (F.tt oc) ((cpM_ne (Or.inl (by decide))).trans e) e9' (by omega) (by decide) (by decide)) (fun u v hu hv => ?_)
  obtain ⟨v1, v2, v3, v4, v5⟩ := hv
  have sp : (∀ k', 0 ≤ k' → k' ≤ 20 → atP s m 0 k' (hoursV R (k' - 0) (pg (cpM T 0 208 52) 208))) ↔ (∀ k', k' ≤ 20 → atP s m 0 k' (hoursV R k' (pgc T 0))) := ⟨fun z k' a2 => z k' (by omega) a2, fun z k' _ a2 => z k' a2⟩
  have rows : (∀ k', k' ≤ 20 → ∀ q, q < R → v.2 18 (126 * a + 6 * k' + q) = hoursV R k' (pgc T 0) q) ∧ (∀ j, ¬ (126 * a ≤ j ∧ j < 126 * a + 126) → v.2 18 j = T 18 j) := by
    refine ⟨fun k' b1 q hq => v3 k' (by omega) b1 q hq, fun j hj => ?_⟩
    rw [v4 j (by omega)]
    exact cpM_ne (Or.inl (by decide))
  by_cases P : ∀ k', k' ≤ 20 → atP s m 0 k' (hoursV R k' (pgc T 0))
  · have w1 := hu.1 P
    have w2' := v1 rfl (sp.mpr P)
    exact ⟨w1.trans w2'.symm, Or.inr w1, hu.2.2, oc.tr v5, rows.1, rows.2⟩
  · have w1 := hu.2.1 P
    have w2' := v2 (fun z => P (sp.mp z.2))
    exact ⟨w1.trans w2'.symm, Or.inl w1, hu.2.2, oc.tr v5, rows.1, rows.2⟩
theorem or_n0 (x : Int32) : x ||| nI 0 = x := by rw [nI_0, Int32.or_zero]
theorem K_kinds {j : Nat} (hj : j < R) (H0 : HR s0 11 g R) (e9 : g 49 = nI h) (hh : h ≤ 999) (ht : 0 < g (18 + j)) : ∀ (n r fu fu' : Nat) (s t : sg) (y : Int32), offT s0 s → FF s0 t m R → t 10 1 = nI R → (∀ i, i < 52 → i ≠ 18 + j → pg t 0 i = g i) → r + n = 4 → n < fu → n < fu' → w2 (C_kinds_31 (nI j) fu y (nI r) s) (M_numbersAt_14 (nI (18 + j)) (nI 1) (nI 4) x4 fu' y (nI r) t) (fun a b => a.1 = b.1)
  | n, r, 0, fu', s, t, y, oS, F, e, hp, hr, hf, hf' => absurd hf (by omega)
  | n, r, fu + 1, 0, s, t, y, oS, F, e, hp, hr, hf, hf' => absurd hf' (by omega)
  | n, r, fu + 1, fu' + 1, s, t, y, oS, F, e, hp, hr, hf, hf' => by
    have h6 := H0.r6
    rw [C_kinds_31, M_numbersAt_14]
    by_cases c : r < 4
    · rw [if_neg (fun z => by have := (nI_ltI (by decide) (by omega)).mp z; omega), if_pos ((nI_ltI (by omega) (by decide)).mpr c), cpNow_eq, nI_add r 1, nI_add 1 r]
      refine w2sl (w2l rfl (by omega) (by decide) (w2sl (w2r rfl (by omega) (by decide) (w2sr ?_))))
      have H11 : HR s 11 g R := H0.off (fun p q1 q2 => oS p (by omega))
      have Hc : HR (cpH s 53 11) 53 g R := H11.copy
      have H1 : HR (up (cpH s 53 11) (53 + 4) j (nI r)) 53 (gu g (18 + j) (nI r + nI 1)) R := Hc.set4 hj (by omega) ((Hc.to j hj).2.2 ht)
      rw [nI_add] at H1
      have o3 : ∀ p, 23 ≤ p → p ≤ 26 → (up (cpH s 53 11) 57 j (nI r)) p = s0 p := fun p a1 a2 => by rw [up_off (by omega), cpH_off p (by omega)]; exact oS p (by omega)
      have F1 : FF s0 (up t 11 (18 + j) (nI (1 + r))) m R := F.e (up_p (by decide)) (up_off (by decide))
      refine w2b (K_cand (a := r) (by omega) o3 F1 H1 ((up_p (by decide)).trans e) (fun i hi => ?_) ?_ hh) (fun u v q => ?_)
      · rw [pg_up0, show 1 + r = r + 1 by omega]
        by_cases z : i = 18 + j
        · rw [z, gu_eq, gu_eq]
        · rw [gu_ne z, gu_ne z]; exact hp i hi z
      · rw [gu_ne (by omega)]; exact e9
      · obtain ⟨q1, q2, q3, q4, _, _⟩ := q
        rw [← q1]
        have next : ∀ y' : Int32, w2 (C_kinds_31 (nI j) fu y' (nI (r + 1)) u.2) (M_numbersAt_14 (nI (18 + j)) (nI 1) (nI 4) x4 fu' y' (nI (r + 1)) v.2) (fun a b => a.1 = b.1) := fun y' => by
          refine K_kinds hj H0 e9 hh ht (n - 1) (r + 1) fu fu' u.2 v.2 y' (fun p hp' => ?_) (F1.tt q4) ?_ (fun i hi hne => ?_) (by omega) (by omega) (by omega)
          · rw [q3 p (by omega), up_off (by omega), cpH_off p (by omega)]; exact oS p hp'
          · rw [q4 10 1 (by decide) (by decide) (by omega), up_p (by decide)]; exact e
          · rw [pg0, q4 11 i (by decide) (by decide) (by omega), up_k hne, ← pg0 (t := t)]; exact hp i hi hne
        rw [or_n0]
        rcases q2 with q2 | q2
        · rw [q2, if_pos (by decide), if_pos (by decide)]; exact next _
        · rw [q2, if_neg (by decide), if_neg (by decide)]; exact next _
    · rw [if_pos ((nI_ltI (by decide) (by omega)).mpr (by omega)), if_neg (fun z => c ((nI_ltI (by omega) (by decide)).mp z))]
      exact w2r rfl (by omega) (by decide) (w2sr (w2s rfl))
theorem RG.ff (G : RG s t R) (I : IC s) : ∃ m, FF s t m R := by
  obtain ⟨m, h1, h2, h3, h4⟩ := G.fe
  refine ⟨m, h1, h2, h3, fun i hi => ⟨(h4 i hi).1, (h4 i hi).2, ?_⟩⟩
  exact (I.2.2.1.2 i (by omega)).2
theorem J_kinds (F : RF s t) : w2 (C_kinds x1 s) (M_kinds x1 t) (fun a b => a.1 = b.1) := by
  obtain ⟨⟨R, G⟩, I, M⟩ := F
  have H := G.h
  have h6 := H.r6
  obtain ⟨R', h, hh, Hs⟩ := I.1
  obtain ⟨m, Ff⟩ := G.ff I
  unfold C_kinds M_kinds
  refine w2P (hasRoom_P H.rm) (isRoom_P G.r h6) (fun _ => w2s rfl) (fun c0 => ?_)
  obtain ⟨j, hj, rfl⟩ := room_j h6 c0
  refine w2P (hasTongue_eq H hj) (hasT_eq (by omega)) (fun _ => w2s rfl) (fun c4 => ?_)
  unfold M_numbersAt
  rw [nI_add, midx_nI (by omega) (by decide)]
  have k := K_kinds (s0 := s) (x4 := t 11 (18 + j)) hj H (G.hh Hs) hh c4 4 0 FU FU s t (nI 0) (fun _ _ => rfl) Ff G.r (fun _ _ _ => rfl) (by decide) (by decide) (by decide)
  obtain ⟨a, b, ea, eb, e⟩ := k
  refine ⟨a, (b.1, b.2), ea, ?_, e⟩
  show (M_numbersAt_14 (nI (18 + j)) (nI 1) (nI 4) (t 11 (18 + j)) FU (nI 0) (nI 0) t).bind (fun v3 => some (v3.1, v3.2)) = some (b.1, b.2)
  rw [eb]; rfl
theorem or10 : ∀ r : Nat, r < 10 → ∀ u : Nat, u < 2 ^ r → (nI u ||| (nI 1 <<< (nI r &&& 31))) = nI (u + 2 ^ r) ∧ u + 2 ^ r < 2 ^ (r + 1) := by decide +kernel
theorem neg2 {r : Nat} : (-2 : Int32) + nI r = nI r - nI 2 := by
  rw [Int32.add_comm, Int32.sub_eq_add_neg]; rfl
theorem K_leaks {j : Nat} (hj : j + 1 < R) (H0 : HR s0 11 g R) (e9 : g 49 = nI h) (hh : h ≤ 999) : ∀ (n r fu fu' : Nat) (s t : sg) (y : Int32), (∃ v : Nat, v < 2 ^ r ∧ y = nI v) → offT s0 s → FF s0 t m R → t 10 1 = nI R → (∀ i, i < 52 → i ≠ 36 + j → pg t 0 i = g i) → (∀ a, a < r → ∀ k', k' ≤ 20 → ∀ q, q < R → ∃ c : Nat → Int32, (∀ i, i < 52 → c i = gu g (36 + j) (nI a - nI 2) i) ∧ t 18 (126 * a + 6 * k' + q) = hoursV R k' c q) → r + n = 10 → n < fu → n < fu' → w2 (C_leaksAsFelt_4 (nI j) fu y (nI r) s) (M_numbersAt_14 (nI (36 + j)) (-2) (nI 10) (g (36 + j)) fu' y (nI r) t) (fun a b => a.1 = b.1 ∧ (∃ v : Nat, v < 1024 ∧ a.1 = nI v) ∧ offT s0 a.2 ∧ b.2 10 1 = nI R ∧ (∀ i, i < 52 → pg b.2 0 i = g i) ∧ ∀ a', a' < 10 → ∀ k', k' ≤ 20 → ∀ q, q < R → ∃ c : Nat → Int32, (∀ i, i < 52 → c i = gu g (36 + j) (nI a' - nI 2) i) ∧ b.2 18 (126 * a' + 6 * k' + q) = hoursV R k' c q)
  | n, r, 0, fu', s, t, y, hy, oS, F, e, hp, rw18, hr, hf, hf' => absurd hf (by omega)
  | n, r, fu + 1, 0, s, t, y, hy, oS, F, e, hp, rw18, hr, hf, hf' => absurd hf' (by omega)
  | n, r, fu + 1, fu' + 1, s, t, y, hy, oS, F, e, hp, rw18, hr, hf, hf' => by
    have h6 := H0.r6
    rw [C_leaksAsFelt_4, M_numbersAt_14]
    by_cases c : r < 10
    · rw [if_neg (fun z => by have := (nI_ltI (by decide) (by omega)).mp z; omega), if_pos ((nI_ltI (by omega) (by decide)).mpr c), cpNow_eq, nI_add r 1, neg2]
      refine w2sl (w2l rfl (by omega) (by decide) (w2sl (w2r rfl (by omega) (by decide) (w2sr ?_))))
      have H11 : HR s 11 g R := H0.off (fun p q1 q2 => oS p (by omega))
      have H1 : HR (up (cpH s 53 11) (53 + 6) j (nI r)) 53 (gu g (36 + j) (nI r - nI 2)) R := (H11.copy (b := 53)).set6 hj (by rw [gu_eq]; exact sub_add _ _) (fun i hi => gu_ne hi)
      have o3 : ∀ p, 23 ≤ p → p ≤ 26 → (up (cpH s 53 11) 59 j (nI r)) p = s0 p := fun p a1 a2 => by rw [up_off (by omega), cpH_off p (by omega)]; exact oS p (by omega)
      have F1 : FF s0 (up t 11 (36 + j) (nI r - nI 2)) m R := F.e (up_p (by decide)) (up_off (by decide))
      have ep : ∀ i, i < 52 → pg (up t 11 (36 + j) (nI r - nI 2)) 0 i = gu g (36 + j) (nI r - nI 2) i := fun i hi => by
        rw [pg_up0]
        by_cases z : i = 36 + j
        · rw [z, gu_eq, gu_eq]
        · rw [gu_ne z, gu_ne z]; exact hp i hi z
      refine w2b (K_cand (a := r) c o3 F1 H1 ((up_p (by decide)).trans e) ep ?_ hh) (fun u v q => ?_)
      · rw [gu_ne (by omega)]; exact e9
      · obtain ⟨q1, q2, q3, q4, q5, q6⟩ := q
        rw [← q1]
        have next : ∀ y' : Int32, (∃ v : Nat, v < 2 ^ (r + 1) ∧ y' = nI v) → w2 (C_leaksAsFelt_4 (nI j) fu y' (nI (r + 1)) u.2) (M_numbersAt_14 (nI (36 + j)) (-2) (nI 10) (g (36 + j)) fu' y' (nI (r + 1)) v.2) (fun a b => a.1 = b.1 ∧ (∃ v : Nat, v < 1024 ∧ a.1 = nI v) ∧ offT s0 a.2 ∧ b.2 10 1 = nI R ∧ (∀ i, i < 52 → pg b.2 0 i = g i) ∧ ∀ a', a' < 10 → ∀ k', k' ≤ 20 → ∀ q, q < R → ∃ c : Nat → Int32, (∀ i, i < 52 → c i = gu g (36 + j) (nI a' - nI 2) i) ∧ b.2 18 (126 * a' + 6 * k' + q) = hoursV R k' c q) := fun y' hy' => by
          refine K_leaks hj H0 e9 hh (n - 1) (r + 1) fu fu' u.2 v.2 y' hy' (fun p hp' => ?_) (F1.tt q4) ?_ (fun i hi hne => ?_) (fun a ha k' hk' q hq => ?_) (by omega) (by omega) (by omega)
          · rw [q3 p (by omega), up_off (by omega), cpH_off p (by omega)]; exact oS p hp'
          · rw [q4 10 1 (by decide) (by decide) (by omega), up_p (by decide)]; exact e
          · rw [pg0, q4 11 i (by decide) (by decide) (by omega), up_k hne, ← pg0 (t := t)]; exact hp i hi hne
          · by_cases z : a = r
            · subst z
              refine ⟨pgc (up t 11 (36 + j) (nI a - nI 2)) 0, fun i hi => ?_, q5 k' hk' q hq⟩
              rw [pgc_e hi]; exact ep i hi
            · obtain ⟨c', c1, c2⟩ := rw18 a (by omega) k' hk' q hq
              refine ⟨c', c1, ?_⟩
              rw [q6 _ (by omega), up_p (by decide)]; exact c2
        rw [or_n0]
        rcases q2 with q2 | q2
        · rw [q2, if_pos (by decide), if_pos (by decide)]
          obtain ⟨w, w1, w2'⟩ := hy
          exact next _ ⟨w, by rw [Nat.pow_succ]; omega, w2'⟩
        · rw [q2, if_neg (by decide), if_neg (by decide)]
          obtain ⟨w, w1, rfl⟩ := hy
          obtain ⟨o1, o2⟩ := or10 r c w w1
          exact next _ ⟨w + 2 ^ r, o2, o1⟩
    · rw [if_pos ((nI_ltI (by decide) (by omega)).mpr (by omega)), if_neg (fun z => c ((nI_ltI (by omega) (by decide)).mp z))]
      refine w2r rfl (by omega) (by decide) (w2sr (w2s ⟨rfl, ?_, oS, ?_, fun i hi => ?_, fun a ha k' hk' q hq => ?_⟩))
      · obtain rfl : r = 10 := by omega
        exact hy
      · show up t 11 (36 + j) (g (36 + j)) 10 1 = nI R
        rw [up_p (by decide)]; exact e
      · rw [pg_up0]
        by_cases z : i = 36 + j
        · rw [z, gu_eq]
        · rw [gu_ne z]; exact hp i hi z
      · obtain ⟨c', c1, c2⟩ := rw18 a (by omega) k' hk' q hq
        refine ⟨c', c1, ?_⟩
        show up t 11 (36 + j) (g (36 + j)) 18 (126 * a + 6 * k' + q) = _
        rw [up_p (by decide)]; exact c2
theorem J_lets (F : RF s t) : w2 (C_lets x1 s) (M_lets x1 t) (fun a b => a.1 = b.1) := by
  obtain ⟨⟨R, G⟩, I, M⟩ := F
  have H := G.h
  have h6 := H.r6
  obtain ⟨R', h, hh, Hs⟩ := I.1
  obtain ⟨m, Ff⟩ := G.ff I
  unfold C_lets M_lets C_leaksAsFelt
  refine w2P (hasWall_P H.rm) (isWall_P G.r h6) (fun _ => w2s rfl) (fun c0 => ?_)
  obtain ⟨j, hj, rfl⟩ := wall_j h6 c0
  unfold M_numbersAt
  rw [nI_add, midx_nI (by omega) (by decide)]
  obtain ⟨a, b, ea, eb, e, _⟩ := K_leaks (s0 := s) hj H (G.hh Hs) hh 10 0 FU FU s t (nI 0) ⟨0, by decide, rfl⟩ (fun _ _ => rfl) Ff G.r (fun _ _ _ => rfl) (fun a ha => absurd ha (by omega)) (by decide) (by decide) (by decide)
  have e36 : pg t 0 (36 + j) = t 11 (36 + j) := pg0
  rw [e36] at eb
  refine ⟨(a.1, a.2), (b.1, b.2), by rw [ea]; rfl, ?_, e⟩
  show (M_numbersAt_14 (nI (36 + j)) (-2) (nI 10) (t 11 (36 + j)) FU (nI 0) (nI 0) t).bind (fun v2 => some (v2.1, v2.2)) = some (b.1, b.2)
  rw [eb]; rfl
end FELTJ
end Q88
section Q88a
/-! an hour looks at the 52 numbers of a page alone -/
section CONGR
variable {R r : Nat} {g g' : Nat → Int32} {x1 x2 : Int32}
theorem gu_c {i : Nat} {v : Int32} (h : ∀ k, k < 52 → g k = g' k) : ∀ k, k < 52 → gu g i v k = gu g' i v k := fun k hk => by
  unfold gu
  rw [h k hk]
theorem swV_c (h : ∀ k, k < 52 → g k = g' k) (hr : r < 6) : ∀ k, k < 52 → swV g r k = swV g' r k := fun k hk => by
  have e1 : lowV g r = lowV g' r := by unfold lowV; rw [h (18 + r) (by omega), h (24 + r) (by omega)]
  have e2 : highV g r = highV g' r := by unfold highV; rw [h (18 + r) (by omega), h (24 + r) (by omega)]
  have e3 : newV g r = newV g' r := by unfold newV; rw [e1, e2, h r (by omega), h (30 + r) (by omega)]
  unfold swV
  rw [h (18 + r) (by omega), e3, h (30 + r) (by omega), h 51 (by decide)]
  by_cases c : 0 < g' (18 + r)
  · rw [if_pos c, if_pos c]
    by_cases d : newV g' r = g' (30 + r)
    · rw [if_pos d, if_pos d]; exact h k hk
    · rw [if_neg d, if_neg d]; exact gu_c (gu_c h) k hk
  · rw [if_neg c, if_neg c]; exact h k hk
theorem swN_c : ∀ (n r : Nat) (g g' : Nat → Int32), (∀ k, k < 52 → g k = g' k) → r + n ≤ 6 → ∀ k, k < 52 → swN g n r k = swN g' n r k
  | 0, r, g, g', h, hr => h
  | n + 1, r, g, g', h, hr => swN_c n (r + 1) _ _ (swV_c h (by omega)) (by omega)
theorem outW_c (h : ∀ k, k < 52 → g k = g' k) (hr : r < 6) : outW g R r = outW g' R r := by
  unfold outW
  rw [h (36 + r) (by omega), h r (by omega), h (r + 1) (by omega)]
theorem innW_c (h : ∀ k, k < 52 → g k = g' k) (hr : r < 6) : innW g R r = innW g' R r := by
  cases r with
  | zero => rfl
  | succ q => exact outW_c h (by omega)
theorem warmV_c (h : ∀ k, k < 52 → g k = g' k) (hr : r < 6) : warmV g R x1 x2 r = warmV g' R x1 x2 r := by
  unfold warmV lossV bnV
  rw [innW_c h hr, outW_c h hr, h r (by omega), h (6 + r) (by omega), h (30 + r) (by omega), h (12 + r) (by omega)]
theorem brV_c (h : ∀ k, k < 52 → g k = g' k) : ∀ (n r : Nat) (c : Int32), r + n ≤ 6 → brV g x2 n r c = brV g' x2 n r c
  | 0, r, c, hr => rfl
  | n + 1, r, c, hr => by
    rw [brV, brV, h (30 + r) (by omega)]
    exact brV_c h n (r + 1) _ (by omega)
theorem passV_c (hR : R ≤ 6) (h : ∀ k, k < 52 → g k = g' k) : ∀ k, k < 52 → passV R x1 x2 g k = passV R x1 x2 g' k := fun k hk => by
  unfold passV
  rw [h 49 (by decide), brV_c h R 0 (g 50) (by omega), h 50 (by decide)]
  refine gu_c (fun q hq => ?_) k hk
  unfold midV
  by_cases c : q < R
  · rw [if_pos c, if_pos c]; exact warmV_c h (by omega)
  · rw [if_neg c, if_neg c]
    by_cases d : q = 50
    · rw [if_pos d, if_pos d]
    · rw [if_neg d, if_neg d]; exact h q hq
theorem hourV_c (hR : R ≤ 6) (h : ∀ k, k < 52 → g k = g' k) : ∀ k, k < 52 → hourV R x1 x2 g k = hourV R x1 x2 g' k := passV_c hR (swN_c R 0 g g' h (by omega))
theorem skyV_c (h : ∀ k, k < 52 → g k = g' k) : skyV g = skyV g' := by
  unfold skyV
  rw [h 49 (by decide), h (41 + (g' 49).toInt.toNat % 8) (by omega)]
theorem nextV_c (hR : R ≤ 6) (h : ∀ k, k < 52 → g k = g' k) : ∀ k, k < 52 → nextV R g k = nextV R g' k := by
  unfold nextV
  rw [skyV_c h]
  exact hourV_c hR h
theorem hoursV_c (hR : R ≤ 6) : ∀ (n : Nat) (g g' : Nat → Int32), (∀ k, k < 52 → g k = g' k) → ∀ k, k < 52 → hoursV R n g k = hoursV R n g' k
  | 0, g, g', h => h
  | n + 1, g, g', h => hoursV_c hR n _ _ (nextV_c hR h)
end CONGR
end Q88a
