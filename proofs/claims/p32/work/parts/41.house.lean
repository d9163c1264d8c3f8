/-! houses, further -/
def dj (b c : Nat) : Prop := b + 7 < c ∨ c + 7 < b
def hN (i : Nat) : Nat := match i with
  | 0 => 5
  | 6 => 5
  | 7 => 8
  | _ => 6
/-- the house b as the house c is -/
def cpH (s : sg) (b c : Nat) : sg := fun p k => if b ≤ p ∧ p ≤ b + 7 ∧ k < hN (p - b) then s (c + (p - b)) k else s p k
theorem cp5 {s : sg} {b c : Nat} (h : c ≠ b) : up (up (up (up (up s b 0 (s c 0)) b 1 (s c 1)) b 2 (s c 2)) b 3 (s c 3)) b 4 (s c 4) = fun p k => if p = b ∧ k < 5 then s c k else s p k := by
  funext p k
  by_cases hp : p = b
  · subst hp
    match k with
    | 0 => simp [up]
    | 1 => simp [up]
    | 2 => simp [up]
    | 3 => simp [up]
    | 4 => simp [up]
    | k + 5 => simp (disch := omega) only [up, if_neg]
  · simp (disch := omega) only [up, if_neg]
def cpG (s : sg) (b c m : Nat) : sg := fun p k => if b ≤ p ∧ p < b + m ∧ k < hN (p - b) then s (c + (p - b)) k else s p k
theorem cpG_step {s : sg} {b c m : Nat} (h : dj b c) (h7 : m ≤ 7) : cpy (cpG s b c m) (c + m) (b + m) (hN m) = cpG s b c (m + 1) := by
  unfold dj at h
  funext p k
  show (if p = b + m ∧ k < hN m then cpG s b c m (c + m) k else cpG s b c m p k) = cpG s b c (m + 1) p k
  have e0 : cpG s b c m (c + m) k = s (c + m) k := if_neg (fun w => by
    have h1 := w.1
    have h2 := w.2.1
    omega)
  rw [e0]
  by_cases hp : p = b + m
  · subst hp
    have e2 : b + m - b = m := by omega
    unfold cpG
    rw [e2]
    by_cases hk : k < hN m
    · rw [if_pos ⟨rfl, hk⟩, if_pos ⟨by omega, by omega, hk⟩]
    · rw [if_neg (fun w => hk w.2), if_neg (fun w => hk w.2.2), if_neg (fun w => hk w.2.2)]
  · rw [if_neg (fun w => hp w.1)]
    unfold cpG
    by_cases hc : b ≤ p ∧ p < b + m ∧ k < hN (p - b)
    · rw [if_pos hc, if_pos ⟨hc.1, by omega, hc.2.2⟩]
    · rw [if_neg hc, if_neg (fun w => hc ⟨w.1, by omega, w.2.2⟩)]
theorem copyFrom_eq {s : sg} {b c : Nat} (h : dj b c) : H_copyFrom b c s = some (cpH s b c) := by
  unfold dj at h
  have e1 : ∀ v, up s b 0 v c 1 = s c 1 := fun v => up_p (by omega)
  unfold H_copyFrom
  simp only [Option.bind_some]
  have e : up (up (up (up (up s b 0 (s c 0)) b 1 (up s b 0 (s c 0) c 1)) b 2 (up (up s b 0 (s c 0)) b 1 (up s b 0 (s c 0) c 1) c 2)) b 3 (up (up (up s b 0 (s c 0)) b 1 (up s b 0 (s c 0) c 1)) b 2 (up (up s b 0 (s c 0)) b 1 (up s b 0 (s c 0) c 1) c 2) c 3)) b 4
      (up (up (up (up s b 0 (s c 0)) b 1 (up s b 0 (s c 0) c 1)) b 2 (up (up s b 0 (s c 0)) b 1 (up s b 0 (s c 0) c 1) c 2)) b 3 (up (up (up s b 0 (s c 0)) b 1 (up s b 0 (s c 0) c 1)) b 2 (up (up s b 0 (s c 0)) b 1 (up s b 0 (s c 0) c 1) c 2) c 3) c 4) = fun p k => if p = b ∧ k < 5 then s c k else s p k := by
    rw [← cp5 (s := s) (b := b) (c := c) (by omega)]
    simp (disch := omega) only [up_p]
  have e' : (fun p k => if p = b ∧ k < 5 then s c k else s p k) = cpG s b c 1 := by
    funext p k
    unfold cpG
    by_cases hp : p = b
    · subst hp
      rw [Nat.sub_self]
      by_cases hk : k < 5
      · rw [if_pos ⟨rfl, hk⟩, if_pos ⟨Nat.le_refl _, by omega, hk⟩]; rfl
      · rw [if_neg (fun w => hk w.2), if_neg (fun w => hk w.2.2)]
    · rw [if_neg (fun w => hp w.1), if_neg (fun w => by have h1 := w.1; have h2 := w.2.1; omega)]
  rw [e, e']
  have h' : dj b c := h
  have t1 : cpy (cpG s b c 1) (c + 1) (b + 1) 6 = cpG s b c 2 := cpG_step h' (by decide)
  have t2 : cpy (cpG s b c 2) (c + 2) (b + 2) 6 = cpG s b c 3 := cpG_step h' (by decide)
  have t3 : cpy (cpG s b c 3) (c + 3) (b + 3) 6 = cpG s b c 4 := cpG_step h' (by decide)
  have t4 : cpy (cpG s b c 4) (c + 4) (b + 4) 6 = cpG s b c 5 := cpG_step h' (by decide)
  have t5 : cpy (cpG s b c 5) (c + 5) (b + 5) 6 = cpG s b c 6 := cpG_step h' (by decide)
  have t6 : cpy (cpG s b c 6) (c + 6) (b + 6) 5 = cpG s b c 7 := cpG_step h' (by decide)
  have t7 : cpy (cpG s b c 7) (c + 7) (b + 7) 8 = cpG s b c 8 := cpG_step h' (by decide)
  rw [t1, t2, t3, t4, t5, t6, t7]
  refine congrArg some (funext fun p => funext fun k => ?_)
  unfold cpG cpH
  by_cases hc : b ≤ p ∧ p ≤ b + 7 ∧ k < hN (p - b)
  · rw [if_pos hc, if_pos ⟨hc.1, by omega, hc.2.2⟩]
  · rw [if_neg hc, if_neg (fun w => hc ⟨w.1, by omega, w.2.2⟩)]
theorem cpH_off {s : sg} {b c : Nat} : offH b s (cpH s b c) := fun p hp => by
  funext k; exact if_neg (by omega)
theorem cpH_at {s : sg} {b c i k : Nat} (hi : i ≤ 7) (hk : k < hN i) : cpH s b c (b + i) k = s (c + i) k := by
  unfold cpH
  rw [show b + i - b = i by omega, if_pos ⟨by omega, by omega, hk⟩]
theorem cpH_hs {s : sg} {b c R h : Nat} (H : HS s c R h) : HS (cpH s b c) b R h := by
  refine ⟨?_, H.2.1, ?_, fun r hr => ?_⟩
  · exact (cpH_at (i := 0) (by decide) (by decide)).trans H.1
  · exact (cpH_at (i := 0) (by decide) (by decide)).trans H.2.2.1
  · rw [cpH_at (i := 4) (by decide) (by exact hr)]; exact H.2.2.2 r hr
section HOUSE2
variable {s : sg} {b R h : Nat} {x x1 x2 x3 lo hi : Int32}
theorem W_copyFrom {c : Nat} (hd : dj b c) (H : HS s c R h) : wp (H_copyFrom b c s) (fun s' => HS s' b R h ∧ offH b s s') := ⟨_, copyFrom_eq hd, cpH_hs H, cpH_off⟩
theorem W_passHours7 {N : Nat} (hN : N < 1000) : ∀ (n r fu : Nat) (s : sg) (h : Nat), HS s b R h → h + n < 2 ^ 29 → r + n = N → n < fu → wp (H_passHours_7 b (nI N) x2 fu (nI r) s) (fun v => HS v.2 b R (h + n) ∧ offH b s v.2)
  | n, r, 0, s, h, H, hh, hr, hf => absurd hf (by omega)
  | n, r, fu + 1, s, h, H, hh, hr, hf => by
    rw [H_passHours_7]
    refine wi (fun c => ?_) (fun c => ws ⟨?_, offH.rf⟩)
    · rw [nI_ltI (by omega) (by omega)] at c
      obtain ⟨n, rfl⟩ : ∃ m, n = m + 1 := ⟨n - 1, by omega⟩
      refine wb (W_passHour H (by omega)) (fun s1 h1 => ?_)
      rw [nI_add]
      exact wc (W_passHours7 hN n (r + 1) fu s1 (h + 1) h1.1 (by omega) (by omega) (by omega)) (fun v hv => ⟨by rw [show h + (n + 1) = h + 1 + n by omega]; exact hv.1, h1.2.tr hv.2⟩)
    · rw [nI_ltI (by omega) (by omega)] at c
      rw [show n = 0 by omega]; exact H
theorem W_passHours {N : Nat} (hN : N < 1000) (H : HS s b R h) (hh : h < 2 ^ 28) : wp (H_passHours b (nI N) s) (fun v => HS v.2 b R (h + N) ∧ offH b s v.2) := by
  unfold H_passHours
  exact W_passHours7 hN N 0 FU s h H (by omega) (by omega) (by show N < 100000; omega)
theorem W_stays3 {N j : Nat} (hN : N < 1000) (hj : j < 6) : ∀ (n r fu : Nat) (s : sg) (h : Nat), HS s b R h → h + n < 2 ^ 29 → r + n = N → n < fu → wp (H_staysWarm_3 b (nI j) (nI N) x3 fu (nI r) s) (fun v => yn True v.1 ∧ offH b s v.2)
  | n, r, 0, s, h, H, hh, hr, hf => absurd hf (by omega)
  | n, r, fu + 1, s, h, H, hh, hr, hf => by
    rw [H_staysWarm_3]
    refine wi (fun c => ?_) (fun c => ws ⟨Or.inr ⟨rfl, trivial⟩, offH.rf⟩)
    rw [nI_ltI (by omega) (by omega)] at c
    obtain ⟨n, rfl⟩ : ∃ m, n = m + 1 := ⟨n - 1, by omega⟩
    refine wb (W_passHour H (by omega)) (fun s1 h1 => wm rfl hj (by decide) (wi (fun _ => ws ⟨Or.inl rfl, h1.2⟩) (fun _ => ?_)))
    rw [nI_add]
    exact wc (W_stays3 hN hj n (r + 1) fu s1 (h + 1) h1.1 (by omega) (by omega) (by omega)) (fun v hv => ⟨hv.1, h1.2.tr hv.2⟩)
theorem W_staysWarm {N j : Nat} (hN : N < 1000) (hj : j < 6) (H : HS s b R h) (hh : h < 2 ^ 28) : wp (H_staysWarm b (nI j) (nI N) x3 s) (fun v => yn True v.1 ∧ offH b s v.2) := by
  unfold H_staysWarm
  exact W_stays3 hN hj N 0 FU s h H (by omega) (by omega) (by show N < 100000; omega)
theorem W_cold5 (H : HS s b R h) : ∀ (n r fu : Nat) (x1 : Int32), r + n = R → n < fu → wp (H_coldestNow_5 b s fu x1 (nI r)) (fun _ => True)
  | n, r, 0, x1, hr, hf => absurd hf (by omega)
  | n, r, fu + 1, x1, hr, hf => by
    have hR := H.2.1
    rw [H_coldestNow_5, H.1]
    refine wi (fun c => ?_) (fun c => ws trivial)
    rw [nI_ltI (by omega) (by omega)] at c
    obtain ⟨n, rfl⟩ : ∃ m, n = m + 1 := ⟨n - 1, by omega⟩
    refine wm rfl (by omega) (by decide) ?_
    rw [nI_add]
    exact W_cold5 H n (r + 1) fu _ (by omega) (by omega)
theorem W_coldestNow (H : HS s b R h) : wp (H_coldestNow b s) (fun _ => True) := by
  unfold H_coldestNow
  exact W_cold5 H R 0 FU _ (by omega) (by have := H.2.1; show R < 100000; omega)
theorem W_burnt8 {N : Nat} (hN : N < 1000) : ∀ (n r fu : Nat) (s : sg) (h : Nat), HS s b R h → h + n < 2 ^ 29 → r + n = N → n < fu → wp (H_burntAllWarm_8 b (nI N) x2 x3 fu (nI r) s) (fun v => offH b s v.2)
  | n, r, 0, s, h, H, hh, hr, hf => absurd hf (by omega)
  | n, r, fu + 1, s, h, H, hh, hr, hf => by
    rw [H_burntAllWarm_8]
    refine wi (fun c => ?_) (fun c => ws offH.rf)
    rw [nI_ltI (by omega) (by omega)] at c
    obtain ⟨n, rfl⟩ : ∃ m, n = m + 1 := ⟨n - 1, by omega⟩
    refine wb (W_passHour H (by omega)) (fun s1 h1 => wb (W_coldestNow h1.1) (fun v2 _ => wi (fun _ => ws h1.2) (fun _ => ?_)))
    rw [nI_add]
    exact wc (W_burnt8 hN n (r + 1) fu s1 (h + 1) h1.1 (by omega) (by omega) (by omega)) (fun v hv => h1.2.tr hv)
theorem W_burntAllWarm {N : Nat} (hN : N < 1000) (H : HS s b R h) (hh : h < 2 ^ 28) : wp (H_burntAllWarm b (nI N) x2 s) (fun v => offH b s v.2) := by
  unfold H_burntAllWarm
  exact W_burnt8 hN N 0 FU s h H (by omega) (by omega) (by show N < 100000; omega)
theorem W_sum4 {p m : Nat} (hm : m < 1000) : ∀ (n r fu : Nat) (x2 : Int32), r + n = m → n < fu → wp (C_sumOf_4 p m x1 s fu x2 (nI r)) (fun _ => True)
  | n, r, 0, x2, hr, hf => absurd hf (by omega)
  | n, r, fu + 1, x2, hr, hf => by
    rw [C_sumOf_4]
    refine wi (fun c => wi (fun c => ?_) (fun _ => ws trivial)) (fun _ => ws trivial)
    rw [nI_ltI (by omega) (by omega)] at c
    obtain ⟨n, rfl⟩ : ∃ m, n = m + 1 := ⟨n - 1, by omega⟩
    refine wm rfl (by omega) (by omega) ?_
    rw [nI_add]
    exact W_sum4 hm n (r + 1) fu _ (by omega) (by omega)
theorem W_sumOf {p m : Nat} (hm : m < 1000) : wp (C_sumOf p m x1 s) (fun _ => True) := by
  unfold C_sumOf
  exact W_sum4 hm m 0 FU _ (by omega) (by show m < 100000; omega)
theorem W_warmthOfAll : wp (H_warmthOfAll b s) (fun _ => True) := by
  unfold H_warmthOfAll
  exact wb (W_sumOf (by decide)) (fun v _ => ws trivial)
theorem W_like2 {c : Nat} (H : HS s b R h) : ∀ (n r fu : Nat), r + n = R → n < fu → wp (H_isLike_2 b c s fu (nI r)) (yn True)
  | n, r, 0, hr, hf => absurd hf (by omega)
  | n, r, fu + 1, hr, hf => by
    have hR := H.2.1
    rw [H_isLike_2, H.1]
    refine wi (fun c => ?_) (fun c => wi (fun _ => ws (Or.inr ⟨rfl, trivial⟩)) (fun _ => ws (Or.inl rfl)))
    rw [nI_ltI (by omega) (by omega)] at c
    obtain ⟨n, rfl⟩ : ∃ m, n = m + 1 := ⟨n - 1, by omega⟩
    refine wm rfl (by omega) (by decide) (wm rfl (by omega) (by decide) (wi (fun _ => ?_) (fun _ => ws (Or.inl rfl))))
    rw [nI_add]
    exact W_like2 H n (r + 1) fu (by omega) (by omega)
theorem W_isLike {c : Nat} (H : HS s b R h) : wp (H_isLike b c s) (yn True) := by
  unfold H_isLike
  exact W_like2 H R 0 FU (by omega) (by have := H.2.1; show R < 100000; omega)
theorem W_markRefused (H : HS s b R h) : wp (H_markRefused b x1 x2 s) (fun v => v = 0 → ∃ j, j < R ∧ x1 = nI j) := by
  unfold H_markRefused
  refine wbB (W_hasRoom H) (ws (fun q => absurd q (by decide))) (fun q => wbB W_within (ws (fun q => absurd q (by decide))) (fun _ => ?_))
  obtain ⟨j, hj, rfl⟩ := q
  exact wbB (W_hasTongue (by have := H.2.1; omega)) (ws (fun q => absurd q (by decide))) (fun _ => ws (fun _ => ⟨j, hj, rfl⟩))
theorem W_takesMark (H : HS s b R h) (hh : h < 2 ^ 29) : wp (H_takesMarkAndHour b x1 x2 s) (fun v => yn True v.1 ∧ offH b s v.2 ∧ ((v.1 = nI 1 ∧ h < 999 ∧ HS v.2 b R (h + 1)) ∨ HS v.2 b R h)) := by
  unfold H_takesMarkAndHour
  refine wb (W_markRefused H) (fun v hv => wi (fun c => wi (fun c2 => ?_) (fun _ => ws ⟨Or.inl rfl, offH.rf, Or.inr H⟩)) (fun _ => ws ⟨Or.inl rfl, offH.rf, Or.inr H⟩))
  obtain ⟨j, hj, rfl⟩ := hv c
  have hR := H.2.1
  rw [H.2.2.1, nI_ltI (by omega) (by decide)] at c2
  refine wm rfl (by omega) (by decide) (wsb ?_)
  have H1 : HS (up s (b + 5) j x2) b R h := H.keep (up_p (by omega)) (up_p (by omega)) (by funext r; exact up_p (by omega))
  exact wb (W_passHour H1 (by omega)) (fun s2 h2 => ws ⟨Or.inr ⟨rfl, trivial⟩, (offH.up ⟨by omega, by omega⟩).tr h2.2, Or.inl ⟨rfl, c2, h2.1⟩⟩)
theorem W_takeTongue {j : Nat} (hj : j < 6) (H : HS s b R h) : wp (H_takeTongue b (nI j) s) (fun s' => HS s' b R h ∧ offH b s s') := by
  unfold H_takeTongue
  refine wm rfl hj (by decide) (wsb (wsb (ws ⟨⟨?_, H.2.1, ?_, fun r hr => ?_⟩, ?_⟩)))
  · rw [up_k (by omega), up_p (by omega)]; exact H.1
  · rw [up_k (by omega), up_p (by omega)]; exact H.2.2.1
  · rw [up_p (by omega)]
    by_cases e : r = j
    · subst e; rw [up_eq]; exact Or.inl rfl
    · rw [up_k e]; exact H.2.2.2 r hr
  · exact (offH.up ⟨by omega, by omega⟩).tr (offH.up ⟨by omega, by omega⟩)
theorem W_exchange {p n j : Nat} (hj : j < n) (hn : n < 1000) : wp (C_exchange p n (nI j) x2 s) (fun v => v = (s p j, up s p j x2)) := by
  unfold C_exchange
  exact wm rfl hj (by omega) (wm rfl hj (by omega) (wsb (ws rfl)))
theorem W_exT {i j : Nat} (hi : i < 6) (hj : j < 6) (H : HS s b R h) : wp (H_exchangeTongues b (nI i) (nI j) s) (fun s' => HS s' b R h ∧ offH b s s') := by
  unfold H_exchangeTongues
  refine wm rfl hi (by decide) (wb (W_exchange hj (by decide)) (fun v hv => ?_))
  subst hv
  refine wm rfl hi (by decide) (wsb (wm rfl hi (by decide) (wb (W_exchange hj (by decide)) (fun v hv => ?_))))
  subst hv
  refine wm rfl hi (by decide) (wsb ?_)
  dsimp only
  have H1 : HS (up (up (up (up s (b + 4) j (s (b + 4) i)) (b + 4) i (s (b + 4) j)) (b + 5) j (up (up s (b + 4) j (s (b + 4) i)) (b + 4) i (s (b + 4) j) (b + 5) i)) (b + 5) i (up (up s (b + 4) j (s (b + 4) i)) (b + 4) i (s (b + 4) j) (b + 5) j)) b R h := by
    refine ⟨?_, H.2.1, ?_, fun r hr => ?_⟩
    · rw [up_p (by omega), up_p (by omega), up_p (by omega), up_p (by omega)]; exact H.1
    · rw [up_p (by omega), up_p (by omega), up_p (by omega), up_p (by omega)]; exact H.2.2.1
    · rw [up_p (by omega), up_p (by omega)]
      by_cases e : r = i
      · subst e; rw [up_eq]; exact H.2.2.2 j hj
      · rw [up_k e]
        by_cases e2 : r = j
        · subst e2; rw [up_eq]; exact H.2.2.2 i hi
        · rw [up_k e2]; exact H.2.2.2 r hr
  have o1 : offH b s (up (up (up (up s (b + 4) j (s (b + 4) i)) (b + 4) i (s (b + 4) j)) (b + 5) j (up (up s (b + 4) j (s (b + 4) i)) (b + 4) i (s (b + 4) j) (b + 5) i)) (b + 5) i (up (up s (b + 4) j (s (b + 4) i)) (b + 4) i (s (b + 4) j) (b + 5) j)) :=
    (((offH.up ⟨by omega, by omega⟩).tr (offH.up ⟨by omega, by omega⟩)).tr (offH.up ⟨by omega, by omega⟩)).tr (offH.up ⟨by omega, by omega⟩)
  have t53 : ∀ s', HS s' b R h → offH b s s' → wp (H_exchangeTongues_53 b (nI j) s') (fun s' => HS s' b R h ∧ offH b s s') := fun s' h1 h2 => by
    unfold H_exchangeTongues_53
    exact wbB (W_hasTongue hj) (wb (W_takeTongue hj h1) (fun s3 h3 => ws ⟨h3.1, h2.tr h3.2⟩)) (fun _ => ws ⟨h1, h2⟩)
  exact wbB (W_hasTongue hi) (wb (W_takeTongue hi H1) (fun s3 h3 => t53 s3 h3.1 (o1.tr h3.2))) (fun _ => t53 _ H1 o1)
end HOUSE2
