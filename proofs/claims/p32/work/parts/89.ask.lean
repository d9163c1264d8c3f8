/-! where to feel next, by both -/
def btN (u a : Nat) : Nat := u / 2 ^ a % 2
def posN (u : Nat) : Nat → Nat
  | 0 => 0
  | a + 1 => posN u a + btN u a
theorem bt10 : ∀ u : Nat, u < 1024 → ∀ a : Nat, a < 10 → ((nI u >>> (nI a &&& 31)) &&& nI 1) = nI (btN u a) := by decide +kernel
theorem btN_le (u a : Nat) : btN u a ≤ 1 := by unfold btN; omega
theorem posN_le (u : Nat) : ∀ a, posN u a ≤ a
  | 0 => Nat.le_refl _
  | a + 1 => by
    have h1 := posN_le u a
    have h2 := btN_le u a
    show posN u a + btN u a ≤ a + 1
    omega
theorem posN_mono (u : Nat) {a : Nat} : ∀ d, posN u a ≤ posN u (a + d)
  | 0 => Nat.le_refl _
  | d + 1 => by
    have h1 := posN_mono u (a := a) d
    show posN u a ≤ posN u (a + d) + btN u (a + d)
    omega
theorem posN_lt {u a c : Nat} (h : a < c) (hb : btN u a = 1) : posN u a < posN u c := by
  obtain ⟨d, rfl⟩ : ∃ d, c = (a + 1) + d := ⟨c - (a + 1), by omega⟩
  have h1 := posN_mono u (a := a + 1) d
  have h2 : posN u (a + 1) = posN u a + btN u a := rfl
  omega
theorem posN_sur (u : Nat) : ∀ (c i : Nat), i < posN u c → ∃ a, a < c ∧ btN u a = 1 ∧ posN u a = i
  | 0, i, h => absurd h (Nat.not_lt_zero _)
  | c + 1, i, h => by
    have h2 : posN u (c + 1) = posN u c + btN u c := rfl
    have h3 := btN_le u c
    by_cases d : i < posN u c
    · obtain ⟨a, a1, a2, a3⟩ := posN_sur u c i d
      exact ⟨a, by omega, a2, a3⟩
    · exact ⟨c, by omega, by omega, by omega⟩
theorem posN_inj {u a c : Nat} (h1 : btN u a = 1) (h2 : btN u c = 1) (e : posN u a = posN u c) : a = c := by
  rcases Nat.lt_trichotomy a c with h | h | h
  · have := posN_lt h h1; omega
  · exact h
  · have := posN_lt h h2; omega
/-- how many candidates show what candidate a shows -/
def cntV (u : Nat) (W : Nat → Int32) (a : Nat) : Nat → Nat → Nat → Nat
  | 0, _, c => c
  | n + 1, a', c => cntV u W a n (a' + 1) (if btN u a' = 1 ∧ W a = W a' then c + 1 else c)
def mxW (u : Nat) (W : Nat → Int32) : Nat → Nat → Nat → Nat
  | 0, _, y => y
  | n + 1, a, y => mxW u W n (a + 1) (if btN u a = 1 then (if y < cntV u W a 10 0 0 then cntV u W a 10 0 0 else y) else y)
theorem cntV_le {u a : Nat} {W : Nat → Int32} : ∀ n a' c, cntV u W a n a' c ≤ c + n
  | 0, a', c => Nat.le_refl _
  | n + 1, a', c => by
    have h := cntV_le (u := u) (a := a) (W := W) n (a' + 1) (if btN u a' = 1 ∧ W a = W a' then c + 1 else c)
    rw [cntV]
    by_cases d : btN u a' = 1 ∧ W a = W a'
    · rw [if_pos d] at h ⊢; omega
    · rw [if_neg d] at h ⊢; omega
theorem mxW_le {u : Nat} {W : Nat → Int32} : ∀ n a y, y ≤ 10 → mxW u W n a y ≤ 10
  | 0, a, y, h => h
  | n + 1, a, y, h => by
    rw [mxW]
    refine mxW_le n (a + 1) _ ?_
    have h1 := cntV_le (u := u) (a := a) (W := W) 10 0 0
    by_cases c : btN u a = 1
    · rw [if_pos c]
      by_cases d : y < cntV u W a 10 0 0
      · rw [if_pos d]; omega
      · rw [if_neg d]; exact h
    · rw [if_neg c]; exact h
theorem mxI {y c : Nat} (hy : y ≤ 10) (hc : c ≤ 10) : (if nI y < nI c then nI c else nI y) = nI (if y < c then c else y) := by
  by_cases d : y < c
  · rw [if_pos ((nI_ltI (by omega) (by omega)).mpr d), if_pos d]
  · rw [if_neg (fun z => d ((nI_ltI (by omega) (by omega)).mp z)), if_neg d]
section ASK
variable {s t s0 : sg} {R h u : Nat} {g : Nat → Int32} {W : Nat → Int32} {x x1 x2 x3 x4 : Int32}
theorem X_17 {k5 : Int32 → Int32 → Option Int32} {a0 r y : Nat} (hr6 : r < 6) (hb : btN u a0 = 1) (ha0 : a0 < 10) (hy : y ≤ 10) (hW : ∀ a, a < 10 → btN u a = 1 → s (53 + 8 * posN u a + 1) r = W a) : ∀ (n a' fu c : Nat), a' + n = 10 → n < fu → c ≤ a' → C_mostAlike_17 k5 (nI (posN u 10)) (nI r) (nI y) (nI (posN u a0)) s fu (nI c) (nI (posN u a')) = k5 (nI (if y < cntV u W a0 n a' c then cntV u W a0 n a' c else y)) (nI (posN u a0) + nI 1)
  | n, a', 0, c, hr, hf, hc => absurd hf (by omega)
  | 0, a', fu + 1, c, hr, hf, hc => by
    obtain rfl : a' = 10 := by omega
    have h1 := posN_le u 10
    rw [C_mostAlike_17, if_neg (fun z => by have := (nI_ltI (by omega) (by omega)).mp z; omega), mxI hy (by omega)]; rfl
  | n + 1, a', fu + 1, c, hr, hf, hc => by
    have h1 := posN_le u 10
    have h2 := posN_le u a'
    have h3 := posN_le u a0
    rw [cntV]
    by_cases d : btN u a' = 1
    · have h4 := posN_lt (c := 10) (by omega) d
      have h5 := posN_lt (c := 10) ha0 hb
      have e1 : posN u (a' + 1) = posN u a' + 1 := by show posN u a' + btN u a' = _; rw [d]
      rw [C_mostAlike_17, if_pos ((nI_ltI (by omega) (by omega)).mpr h4), midx_nI (by omega) (by decide), midx_nI hr6 (by decide), midx_nI (by omega) (by decide), nI_add c 1, nI_add (posN u a') 1, ← e1]
      show (if s (53 + 8 * posN u a0 + 1) r = s (53 + 8 * posN u a' + 1) r then C_mostAlike_17 k5 (nI (posN u 10)) (nI r) (nI y) (nI (posN u a0)) s fu (nI (c + 1)) (nI (posN u (a' + 1))) else C_mostAlike_17 k5 (nI (posN u 10)) (nI r) (nI y) (nI (posN u a0)) s fu (nI c) (nI (posN u (a' + 1)))) = _
      rw [hW a0 ha0 hb, hW a' (by omega) d]
      by_cases f : W a0 = W a'
      · rw [if_pos f, if_pos (show btN u a' = 1 ∧ W a0 = W a' from ⟨d, f⟩)]
        exact X_17 hr6 hb ha0 hy hW n (a' + 1) fu (c + 1) (by omega) (by omega) (by omega)
      · rw [if_neg f, if_neg (show ¬ (btN u a' = 1 ∧ W a0 = W a') from fun z => f z.2)]
        exact X_17 hr6 hb ha0 hy hW n (a' + 1) fu c (by omega) (by omega) (by omega)
    · have h4 := btN_le u a'
      have e1 : posN u (a' + 1) = posN u a' := by show posN u a' + btN u a' = _; omega
      rw [← e1, if_neg (show ¬ (btN u a' = 1 ∧ W a0 = W a') from fun z => d z.1)]
      exact X_17 hr6 hb ha0 hy hW n (a' + 1) (fu + 1) c (by omega) (by omega) (by omega)
theorem X_5 {r : Nat} (hr6 : r < 6) (hW : ∀ a, a < 10 → btN u a = 1 → s (53 + 8 * posN u a + 1) r = W a) : ∀ (n a fu y : Nat), a + n = 10 → n < fu → y ≤ 10 → C_mostAlike_5 (nI (posN u 10)) (nI r) s fu (nI y) (nI (posN u a)) = some (nI (mxW u W n a y))
  | n, a, 0, y, hr, hf, hy => absurd hf (by omega)
  | 0, a, fu + 1, y, hr, hf, hy => by
    obtain rfl : a = 10 := by omega
    have h1 := posN_le u 10
    rw [C_mostAlike_5, if_neg (fun z => by have := (nI_ltI (by omega) (by omega)).mp z; omega)]; rfl
  | n + 1, a, fu + 1, y, hr, hf, hy => by
    have h1 := posN_le u 10
    have h2 := posN_le u a
    rw [mxW]
    by_cases d : btN u a = 1
    · have h4 := posN_lt (c := 10) (by omega) d
      have e1 : posN u (a + 1) = posN u a + 1 := by show posN u a + btN u a = _; rw [d]
      have z := X_17 (k5 := C_mostAlike_5 (nI (posN u 10)) (nI r) s fu) hr6 d (by omega) hy hW 10 0 FU 0 (by omega) (by decide) (by omega)
      have hc := cntV_le (u := u) (a := a) (W := W) 10 0 0
      rw [C_mostAlike_5, if_pos ((nI_ltI (by omega) (by omega)).mpr h4)]
      refine Eq.trans z ?_
      rw [nI_add, ← e1, if_pos d]
      refine X_5 hr6 hW n (a + 1) fu _ (by omega) (by omega) ?_
      by_cases q : y < cntV u W a 10 0 0
      · rw [if_pos q]; omega
      · rw [if_neg q]; exact hy
    · have h4 := btN_le u a
      have e1 : posN u (a + 1) = posN u a := by show posN u a + btN u a = _; omega
      rw [← e1, if_neg d]
      exact X_5 hr6 hW n (a + 1) (fu + 1) y (by omega) (by omega) hy
theorem Y_18 {k5 : Int32 → Int32 → Option Int32} {a0 z y : Nat} (hu : u < 1024) (hz : z < 126) (ha0 : a0 < 10) (hb : btN u a0 = 1) (hy : y ≤ 10) (hW : ∀ a, a < 10 → btN u a = 1 → t 18 (126 * a + z) = W a) : ∀ (n a' fu c : Nat), a' + n = 10 → n < fu → c ≤ a' → M_worstAt_18 k5 (nI u) (nI z) (nI y) (nI a0) t fu (nI c) (nI a') = k5 (nI (if y < cntV u W a0 n a' c then cntV u W a0 n a' c else y)) (nI a0 + nI 1)
  | n, a', 0, c, hr, hf, hc => absurd hf (by omega)
  | 0, a', fu + 1, c, hr, hf, hc => by
    obtain rfl : a' = 10 := by omega
    rw [M_worstAt_18, if_pos (by decide)]
    unfold M_worstAt_88
    rw [cntV, ← mxI hy (by omega)]
    by_cases d : nI y < nI c
    · rw [if_pos d, if_pos d]
    · rw [if_neg d, if_neg d]
  | n + 1, a', fu + 1, c, hr, hf, hc => by
    have e0 : ((nI u >>> (nI a0 &&& 31)) &&& nI 1) = nI 1 := by rw [bt10 u hu a0 ha0, hb]
    rw [M_worstAt_18, if_neg (fun z => by have := (nI_ltI (by decide) (by omega)).mp z; omega), if_pos e0, bt10 u hu a' (by omega), cntV, nI_add a' 1, nI_add c 1]
    unfold M_worstAt_78
    rw [add_nI0, nI_add a' 1]
    by_cases d : btN u a' = 1
    · rw [d, if_pos rfl, pk_mul, pk_mul, nI_add, nI_add, midx_nI (by omega) (by decide), midx_nI (by omega) (by decide)]
      show (if t 18 (126 * a0 + z) = t 18 (126 * a' + z) then M_worstAt_18 k5 (nI u) (nI z) (nI y) (nI a0) t fu (nI (c + 1)) (nI (a' + 1)) else M_worstAt_18 k5 (nI u) (nI z) (nI y) (nI a0) t fu (nI c) (nI (a' + 1))) = _
      rw [hW a0 ha0 hb, hW a' (by omega) d]
      by_cases f : W a0 = W a'
      · rw [if_pos f, if_pos (show 1 = 1 ∧ W a0 = W a' from ⟨rfl, f⟩)]
        exact Y_18 hu hz ha0 hb hy hW n (a' + 1) fu (c + 1) (by omega) (by omega) (by omega)
      · rw [if_neg f, if_neg (show ¬ (1 = 1 ∧ W a0 = W a') from fun z => f z.2)]
        exact Y_18 hu hz ha0 hb hy hW n (a' + 1) fu c (by omega) (by omega) (by omega)
    · have h4 := btN_le u a'
      rw [if_neg (i32_ne d (by omega) (by decide)), if_neg (show ¬ (btN u a' = 1 ∧ W a0 = W a') from fun z => d z.1)]
      exact Y_18 hu hz ha0 hb hy hW n (a' + 1) fu c (by omega) (by omega) (by omega)
theorem Y_5 {z : Nat} (hu : u < 1024) (hz : z < 126) (hW : ∀ a, a < 10 → btN u a = 1 → t 18 (126 * a + z) = W a) : ∀ (n a fu y : Nat), a + n = 10 → n < fu → y ≤ 10 → M_worstAt_5 (nI u) (nI z) t fu (nI y) (nI a) = some (nI (mxW u W n a y))
  | n, a, 0, y, hr, hf, hy => absurd hf (by omega)
  | 0, a, fu + 1, y, hr, hf, hy => by
    obtain rfl : a = 10 := by omega
    rw [M_worstAt_5, if_pos (by decide)]; rfl
  | n + 1, a, fu + 1, y, hr, hf, hy => by
    rw [M_worstAt_5, if_neg (fun z => by have := (nI_ltI (by decide) (by omega)).mp z; omega), mxW]
    have hc := cntV_le (u := u) (a := a) (W := W) 10 0 0
    by_cases d : btN u a = 1
    · refine Eq.trans (Y_18 (k5 := M_worstAt_5 (nI u) (nI z) t fu) hu hz (by omega) d hy hW 10 0 FU 0 (by omega) (by decide) (by omega)) ?_
      rw [nI_add, if_pos d]
      refine Y_5 hu hz hW n (a + 1) fu _ (by omega) (by omega) ?_
      by_cases q : y < cntV u W a 10 0 0
      · rw [if_pos q]; omega
      · rw [if_neg q]; exact hy
    · have h4 := btN_le u a
      have e0 : ¬ ((nI u >>> (nI a &&& 31)) &&& nI 1) = nI 1 := by rw [bt10 u hu a (by omega)]; exact i32_ne d (by omega) (by decide)
      have e1 : M_worstAt_18 (M_worstAt_5 (nI u) (nI z) t fu) (nI u) (nI z) (nI y) (nI a) t FU (nI 0) (nI 0) = M_worstAt_5 (nI u) (nI z) t fu (nI y) (nI a + nI 1) := by
        show M_worstAt_18 (M_worstAt_5 (nI u) (nI z) t fu) (nI u) (nI z) (nI y) (nI a) t (99999 + 1) (nI 0) (nI 0) = _
        rw [M_worstAt_18, if_neg (by decide), if_neg e0]
        unfold M_worstAt_88
        rw [if_neg (fun z => by have := (nI_ltI (by omega) (by omega)).mp z; omega)]
      rw [e1, nI_add, if_neg d]
      exact Y_5 hu hz hW n (a + 1) fu y (by omega) (by omega) hy
theorem X_lay {j : Nat} (hj : j + 1 < R) (H0 : HR s0 11 g R) (hu : u < 1024) : ∀ (n a fu : Nat) (s : sg), offT s0 s → (∀ a', a' < a → btN u a' = 1 → HR s (53 + 8 * posN u a') (gu g (36 + j) (nI a' - nI 2)) R) → a + n = 10 → n < fu → wp (C_layOutTrials_5 (nI j) (nI u) fu (nI (posN u a)) (nI a) s) (fun v => v.1 = nI (posN u 10) ∧ offT s0 v.2 ∧ ∀ a', a' < 10 → btN u a' = 1 → HR v.2 (53 + 8 * posN u a') (gu g (36 + j) (nI a' - nI 2)) R)
  | n, a, 0, s, oS, hT, hr, hf => absurd hf (by omega)
  | n, a, fu + 1, s, oS, hT, hr, hf => by
    have h6 := H0.r6
    have hp := posN_le u a
    rw [C_layOutTrials_5]
    refine wi (fun c => ?_) (fun c => ?_)
    · have hc := (nI_ltI (by decide) (by omega)).mp c
      obtain rfl : a = 10 := by omega
      exact ws ⟨rfl, oS, hT⟩
    · have hc : ¬ 9 < a := fun z => c ((nI_ltI (by decide) (by omega)).mpr z)
      rw [if_pos ((nI_ltI (by omega) (by decide)).mpr (show posN u a < 10 by omega)), bt10 u hu a (by omega), nI_add a 1, nI_add (posN u a) 1]
      have h4 := btN_le u a
      refine wi (fun d => ?_) (fun d => ?_)
      · have hb : btN u a = 1 := (nI_eq (by omega) (by decide)).mp d
        have e1 : posN u (a + 1) = posN u a + 1 := by show posN u a + btN u a = _; rw [hb]
        refine wm rfl (by omega) (by decide) ?_
        rw [copyFrom_eq (show dj (53 + 8 * posN u a) 11 from Or.inr (by omega))]
        refine wsb (wm rfl (by omega) (by decide) (wm rfl (by omega) (by decide) (wsb ?_)))
        rw [← e1]
        have H11 : HR s 11 g R := H0.off (fun p q1 q2 => oS p (by omega))
        have H1 : HR (up (cpH s (53 + 8 * posN u a) 11) (53 + 8 * posN u a + 6) j (nI a)) (53 + 8 * posN u a) (gu g (36 + j) (nI a - nI 2)) R := (H11.copy (b := 53 + 8 * posN u a)).set6 hj (by rw [gu_eq]; exact sub_add _ _) (fun i hi => gu_ne hi)
        refine X_lay hj H0 hu (n - 1) (a + 1) fu _ (fun p hp' => ?_) (fun a' ha' hb' => ?_) (by omega) (by omega)
        · rw [up_off (by omega), cpH_off p (by omega)]; exact oS p hp'
        · by_cases z : a' = a
          · subst z
            exact H1
          · have h5 := posN_lt (c := a) (by omega) hb'
            refine (hT a' (by omega) hb').off (fun p q1 q2 => ?_)
            rw [up_off (by omega), cpH_off p (by omega)]
      · have hb : btN u a = 0 := by
          have : ¬ btN u a = 1 := fun z => d (by rw [z])
          omega
        have e1 : posN u (a + 1) = posN u a := by show posN u a + btN u a = _; omega
        rw [← e1]
        refine X_lay hj H0 hu (n - 1) (a + 1) fu s oS (fun a' ha' hb' => hT a' ?_ hb') (by omega) (by omega)
        by_cases z : a' = a
        · subst z; omega
        · omega
theorem X_104 {k43 : Int32 → Int32 → Int32 → sg → Option (Int32 × sg)} {cd : Nat → Nat → Int32} {k : Nat} {y4 y5 y6 : Int32} (hR : R ≤ 6) (e9 : ∀ a, a < 10 → cd a 49 = nI h) (hh : h + k < 2 ^ 29) : ∀ (n i fu : Nat) (s : sg), offT s0 s → (∀ a, a < 10 → btN u a = 1 → HR s (53 + 8 * posN u a) (if posN u a < i then hoursV R (k + 1) (cd a) else hoursV R k (cd a)) R) → i + n = posN u 10 → n < fu → ∃ s', C_ask_104 k43 x2 (nI (posN u 10)) y4 y5 y6 fu (nI i) s = k43 y4 y5 (y6 + nI 1) s' ∧ offT s0 s' ∧ ∀ a, a < 10 → btN u a = 1 → HR s' (53 + 8 * posN u a) (hoursV R (k + 1) (cd a)) R
  | n, i, 0, s, oS, hT, hr, hf => absurd hf (by omega)
  | n, i, fu + 1, s, oS, hT, hr, hf => by
    have hp := posN_le u 10
    rw [C_ask_104]
    by_cases c : i < posN u 10
    · obtain ⟨a, a1, a2, a3⟩ := posN_sur u 10 i c
      have H := hT a a1 a2
      rw [a3, if_neg (by omega)] at H
      obtain ⟨s1, es, h1, o1⟩ := X_passHour H (hoursV_49 hR k h (cd a) (e9 a a1)) (by omega)
      rw [if_pos ((nI_ltI (by omega) (by omega)).mpr c), midx_nI (by omega) (by decide), nI_add]
      have ee : ((some i).bind fun j1 => (H_passHour (53 + 8 * j1) s).bind fun s1 => C_ask_104 k43 x2 (nI (posN u 10)) y4 y5 y6 fu (nI (i + 1)) s1) = C_ask_104 k43 x2 (nI (posN u 10)) y4 y5 y6 fu (nI (i + 1)) s1 := by
        show ((H_passHour (53 + 8 * i) s).bind fun s1 => C_ask_104 k43 x2 (nI (posN u 10)) y4 y5 y6 fu (nI (i + 1)) s1) = _
        rw [es]; rfl
      rw [ee]
      refine X_104 hR e9 hh (n - 1) (i + 1) fu s1 (fun p hp' => (o1 p (by omega)).trans (oS p hp')) (fun a' b1 b2 => ?_) (by omega) (by omega)
      by_cases z : posN u a' = i
      · have za : a' = a := posN_inj b2 a2 (z.trans a3.symm)
        subst za
        rw [z, if_pos (by omega), hoursV_s]; exact h1
      · have q := (hT a' b1 b2).off (s' := s1) (fun p q1 q2 => o1 p (by omega))
        by_cases w : posN u a' < i
        · rw [if_pos w] at q
          rw [if_pos (by omega)]; exact q
        · rw [if_neg w] at q
          rw [if_neg (by omega)]; exact q
    · rw [if_neg (fun z => c ((nI_ltI (by omega) (by omega)).mp z))]
      refine ⟨s, rfl, oS, fun a b1 b2 => ?_⟩
      have h4 := posN_lt (c := 10) b1 b2
      have q := hT a b1 b2
      rw [if_pos (by omega)] at q
      exact q
theorem K_53 {k43 k70 : Int32 → Int32 → Int32 → sg → Option (Int32 × sg)} {cd : Nat → Nat → Int32} {k : Nat} (hk : k ≤ 20) (hu : u < 1024) (H11 : HR s 11 g R) (e : t 10 1 = nI R) (hT : ∀ a, a < 10 → btN u a = 1 → HR s (53 + 8 * posN u a) (hoursV R k (cd a)) R) (h18 : ∀ a, a < 10 → ∀ q, q < R → t 18 (126 * a + 6 * k + q) = hoursV R k (cd a) q) (hc : ∀ y4 y5 : Int32, w2 (C_ask_104 k43 x2 (nI (posN u 10)) y4 y5 (nI k) FU (nI 0) s) (k70 y5 y4 (nI k + nI 1) t) (fun a b => a.1 = b.1)) : ∀ (n r fu fu' : Nat) (y4 y5 : Int32), r + n = R → n < fu → n < fu' → w2 (C_ask_53 k43 x2 (nI (posN u 10)) (nI k) fu y4 y5 (nI r) s) (M_ask_80 k70 x2 (nI u) (nI k) fu' y5 y4 (nI r) t) (fun a b => a.1 = b.1)
  | n, r, 0, fu', y4, y5, hr, hf, hf' => absurd hf (by omega)
  | n, r, fu + 1, 0, y4, y5, hr, hf, hf' => absurd hf' (by omega)
  | n, r, fu + 1, fu' + 1, y4, y5, hr, hf, hf' => by
    have h6 := H11.r6
    rw [C_ask_53, M_ask_80, H11.rm, e]
    by_cases c : r < R
    · rw [if_pos ((nI_ltI (by omega) (by omega)).mpr c), if_pos ((nI_ltI (by omega) (by omega)).mpr c)]
      have z1 : C_mostAlike (nI (posN u 10)) (nI r) s = some (nI (mxW u (fun a => hoursV R k (cd a) r) 10 0 0)) := by
        unfold C_mostAlike
        exact X_5 (W := fun a => hoursV R k (cd a) r) (by omega) (fun a b1 b2 => (hT a b1 b2).w c) 10 0 FU 0 (by omega) (by decide) (by omega)
      have z2 : M_worstAt (nI u) (nI 6 * nI k + nI r) t = some (nI (mxW u (fun a => hoursV R k (cd a) r) 10 0 0)) := by
        unfold M_worstAt
        rw [pk_mul, nI_add]
        refine Y_5 (W := fun a => hoursV R k (cd a) r) hu (by omega) (fun a b1 b2 => ?_) 10 0 FU 0 (by omega) (by decide) (by omega)
        rw [← Nat.add_assoc]; exact h18 a b1 r c
      rw [z1, z2]
      refine w2sl (w2sr ?_)
      unfold M_ask_124
      rw [nI_add r 1]
      have next : ∀ y4' y5' : Int32, w2 (C_ask_53 k43 x2 (nI (posN u 10)) (nI k) fu y4' y5' (nI (r + 1)) s) (M_ask_80 k70 x2 (nI u) (nI k) fu' y5' y4' (nI (r + 1)) t) (fun a b => a.1 = b.1) := fun y4' y5' =>
        K_53 hk hu H11 e hT h18 hc (n - 1) (r + 1) fu fu' y4' y5' (by omega) (by omega) (by omega)
      by_cases d : nI (mxW u (fun a => hoursV R k (cd a) r) 10 0 0) < y5
      · rw [if_pos d, if_pos d, if_pos d]; exact next _ _
      · rw [if_neg d, if_neg d, if_neg d]; exact next _ _
    · rw [if_neg (fun z => c ((nI_ltI (by omega) (by omega)).mp z)), if_neg (fun z => c ((nI_ltI (by omega) (by omega)).mp z))]
      exact hc y4 y5
theorem K_43a {cd : Nat → Nat → Int32} (hu : u < 1024) (hR : R ≤ 6) (H0 : HR s0 11 g R) (e : t 10 1 = nI R) (e9 : ∀ a, a < 10 → cd a 49 = nI h) (hh : h ≤ 999) (h18 : ∀ a, a < 10 → ∀ k, k ≤ 20 → ∀ q, q < R → t 18 (126 * a + 6 * k + q) = hoursV R k (cd a) q) : ∀ (n k fu fu' : Nat) (s : sg) (y4 y5 : Int32), offT s0 s → (∀ a, a < 10 → btN u a = 1 → HR s (53 + 8 * posN u a) (hoursV R k (cd a)) R) → k + n = 21 → n < fu → n < fu' → w2 (C_ask_43 x2 (nI (posN u 10)) fu y4 y5 (nI k) s) (M_ask_70 x2 (nI u) fu' y5 y4 (nI k) t) (fun a b => a.1 = b.1)
  | n, k, 0, fu', s, y4, y5, oS, hT, hr, hf, hf' => absurd hf (by omega)
  | n, k, fu + 1, 0, s, y4, y5, oS, hT, hr, hf, hf' => absurd hf' (by omega)
  | n, k, fu + 1, fu' + 1, s, y4, y5, oS, hT, hr, hf, hf' => by
    rw [C_ask_43, M_ask_70]
    by_cases c : 20 < k
    · rw [if_pos ((nI_ltI (by decide) (by omega)).mpr c), if_pos ((nI_ltI (by decide) (by omega)).mpr c), C_ch]
      refine w2sl ?_
      by_cases d : y4 = -4
      · rw [if_pos d, if_pos d]; exact w2s d.symm
      · rw [if_neg d, if_neg d]
        by_cases f : x2 = 0
        · rw [if_pos f, if_pos f]; exact w2s rfl
        · rw [if_neg f, if_neg f]; exact w2s rfl
    · rw [if_neg (fun z => c ((nI_ltI (by decide) (by omega)).mp z)), if_neg (fun z => c ((nI_ltI (by decide) (by omega)).mp z))]
      have H11 : HR s 11 g R := H0.off (fun p q1 q2 => oS p (by omega))
      have hp := posN_le u 10
      refine K_53 (by omega) hu H11 e hT (fun a b1 q hq => h18 a b1 k (by omega) q hq) (fun y4' y5' => ?_) R 0 FU FU y4 y5 (by omega) (by show R < 100000; omega) (by show R < 100000; omega)
      obtain ⟨s', e1, o1, t1⟩ := X_104 (s0 := s0) (u := u) (x2 := x2) (k43 := C_ask_43 x2 (nI (posN u 10)) fu) (cd := cd) (k := k) (y4 := y4') (y5 := y5') (y6 := nI k) hR e9 (by omega) (posN u 10) 0 FU s oS (fun a b1 b2 => by rw [if_neg (by omega)]; exact hT a b1 b2) (by omega) (by show posN u 10 < 100000; omega)
      rw [e1, nI_add]
      exact K_43a hu hR H0 e e9 hh h18 (n - 1) (k + 1) fu fu' s' y4' y5' o1 t1 (by omega) (by omega) (by omega)
theorem Y_39 (hu : u < 1024) : ∀ (n a fu : Nat), a + n = 10 → n < fu → M_ask_39 x2 (nI u) fu (nI (posN u a)) (nI a) t = M_ask_70 x2 (nI u) FU (nI (posN u 10)) (-4) (nI 0) t
  | n, a, 0, hr, hf => absurd hf (by omega)
  | n, a, fu + 1, hr, hf => by
    rw [M_ask_39]
    by_cases c : 9 < a
    · obtain rfl : a = 10 := by omega
      rw [if_pos (by decide)]
    · rw [if_neg (fun z => c ((nI_ltI (by decide) (by omega)).mp z)), bt10 u hu a (by omega), nI_add, nI_add]
      exact Y_39 hu (n - 1) (a + 1) fu (by omega) (by omega)
theorem J_ask (F : RF s t) : w2 (C_ask x1 x2 s) (M_ask x1 x2 t) (fun a b => a.1 = b.1) := by
  obtain ⟨⟨R, G⟩, I, M⟩ := F
  have H := G.h
  have h6 := H.r6
  obtain ⟨R', h, hh, Hs⟩ := I.1
  obtain ⟨m, Ff⟩ := G.ff I
  unfold C_ask M_ask C_leaksAsFelt C_layOutTrials
  refine w2P (hasWall_P H.rm) (isWall_P G.r h6) (fun _ => w2s rfl) (fun c0 => ?_)
  obtain ⟨j, hj, rfl⟩ := wall_j h6 c0
  refine w2P within_eq (inP (by decide) (by decide)) (fun _ => w2s rfl) (fun c2 => ?_)
  unfold M_numbersAt
  rw [nI_add, midx_nI (by omega) (by decide)]
  obtain ⟨a, b, ea, eb, e, ⟨u, hu, eu⟩, oa, b1, b0, b18⟩ := K_leaks (s0 := s) hj H (G.hh Hs) hh 10 0 FU FU s t (nI 0) ⟨0, by decide, rfl⟩ (fun _ _ => rfl) Ff G.r (fun _ _ _ => rfl) (fun a ha => absurd ha (by omega)) (by decide) (by decide) (by decide)
  have e36 : pg t 0 (36 + j) = t 11 (36 + j) := pg0
  rw [e36] at eb
  have ec : ((some (36 + j)).bind fun j1 => M_numbersAt_14 (nI (36 + j)) (-2) (nI 10) (t 11 j1) FU (nI 0) (nI 0) t) = some b := eb
  rw [ea, ec]
  refine w2sl (w2sr ?_)
  rw [← e, eu]
  have eB : HR a.2 11 (pg t 0) R := H.off (fun p q1 q2 => oa p (by omega))
  refine w2bl (X_lay (s0 := s) hj H hu 10 0 FU a.2 oa (fun a' ha' => absurd ha' (by omega)) (by decide) (by decide)) (fun v hv => ?_)
  obtain ⟨v1, v2, v3⟩ := hv
  rw [v1]
  have z39 : M_ask_39 x2 (nI u) FU (nI 0) (nI 0) b.2 = M_ask_70 x2 (nI u) FU (nI (posN u 10)) (-4) (nI 0) b.2 := Y_39 hu 10 0 FU (by decide) (by decide)
  rw [z39]
  refine K_43a (g := pg t 0) (s0 := s) (cd := fun a => gu (pg t 0) (36 + j) (nI a - nI 2)) (h := h) hu h6 H b1 (fun a' ha' => ?_) hh (fun a' ha' k hk q hq => ?_) 21 0 FU FU v.2 _ _ v2 v3 (by decide) (by decide) (by decide)
  · show gu (pg t 0) (36 + j) (nI a' - nI 2) 49 = nI h
    rw [gu_ne (by omega)]; exact G.hh Hs
  · obtain ⟨c, c1, c3⟩ := b18 a' ha' k hk q hq
    rw [c3]
    exact hoursV_c h6 k c _ c1 q (by omega)
end ASK
