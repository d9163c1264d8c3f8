section Q40
/-! what comes out, and what holds of it -/
def wp {α : Type} (o : Option α) (Q : α → Prop) : Prop := ∃ a, o = some a ∧ Q a
theorem wb {α β : Type} {o : Option α} {f : α → Option β} {P : α → Prop} {Q : β → Prop} (h : wp o P) (k : ∀ a, P a → wp (f a) Q) : wp (o.bind f) Q := by
  obtain ⟨a, rfl, ha⟩ := h
  exact k a ha
theorem ws {α : Type} {a : α} {Q : α → Prop} (h : Q a) : wp (some a) Q := ⟨a, rfl, h⟩
theorem wsb {α β : Type} {a : α} {f : α → Option β} {Q : β → Prop} (k : wp (f a) Q) : wp ((some a).bind f) Q := k
theorem wi {α : Type} {c : Prop} [Decidable c] {a b : Option α} {Q : α → Prop} (h1 : c → wp a Q) (h2 : ¬ c → wp b Q) : wp (if c then a else b) Q := by
  by_cases h : c
  · rw [if_pos h]; exact h1 h
  · rw [if_neg h]; exact h2 h
theorem wc {α : Type} {o : Option α} {P Q : α → Prop} (h : wp o P) (k : ∀ a, P a → Q a) : wp o Q := by
  obtain ⟨a, e, ha⟩ := h
  exact ⟨a, e, k a ha⟩
theorem midx_nI {n N : Nat} (h : n < N) (hN : N < 2 ^ 31) : midx (nI n) N = some n := by
  have h1 : ¬ nI n < 0 := nI_pos (by omega)
  unfold midx
  rw [if_neg h1, nI_clamp (by omega), blt_of h]; rfl
theorem wm {β : Type} {x : Int32} {n j : Nat} {f : Nat → Option β} {Q : β → Prop} (hx : x = nI j) (hj : j < n) (hn : n < 2 ^ 31) (k : wp (f j) Q) : wp ((midx x n).bind f) Q := by
  rw [hx, midx_nI hj hn]; exact k
/-- a yes or no, and what a yes says -/
def yn (P : Prop) (v : Int32) : Prop := v = nI 0 ∨ (v = nI 1 ∧ P)
theorem wbB {β : Type} {o : Option Int32} {P : Prop} {a b : Option β} {Q : β → Prop} (h : wp o (yn P)) (k0 : wp a Q) (k1 : P → wp b Q) : wp (o.bind fun v => if v = 0 then a else b) Q := by
  obtain ⟨v, rfl, rfl | ⟨rfl, hP⟩⟩ := h
  · show wp (if nI 0 = 0 then a else b) Q
    rw [if_pos (show nI 0 = 0 from rfl)]; exact k0
  · show wp (if nI 1 = 0 then a else b) Q
    rw [if_neg (by decide)]; exact k1 hP
theorem up_eq {s : sg} {p k : Nat} {v : Int32} : up s p k v p k = v := if_pos ⟨rfl, rfl⟩
theorem up_p {s : sg} {p k q j : Nat} {v : Int32} (h : q ≠ p) : up s p k v q j = s q j := if_neg (fun w => h w.1)
theorem up_k {s : sg} {p k q j : Nat} {v : Int32} (h : j ≠ k) : up s p k v q j = s q j := if_neg (fun w => h w.2)
/-! houses: what the class's methods need of one to end -/
def tg (x : Int32) : Prop := x = -1 ∨ ∃ k : Nat, k < 4 ∧ x = nI k
def HS (s : sg) (b R h : Nat) : Prop := s b 0 = nI R ∧ R ≤ 6 ∧ s b 2 = nI h ∧ ∀ r, r < 6 → tg (s (b + 4) r)
def offH (b : Nat) (s s' : sg) : Prop := ∀ p, (p < b ∨ b + 7 < p) → s' p = s p
theorem offH.rf {b : Nat} {s : sg} : offH b s s := fun _ _ => rfl
theorem offH.tr {b : Nat} {s s' s'' : sg} (h1 : offH b s s') (h2 : offH b s' s'') : offH b s s'' := fun p hp => (h2 p hp).trans (h1 p hp)
theorem offH.up {b p k : Nat} {s : sg} {v : Int32} (h : b ≤ p ∧ p ≤ b + 7) : offH b s (up s p k v) := fun q hq => up_off (by omega)
theorem HS.keep {s s' : sg} {b R h : Nat} (H : HS s b R h) (h0 : s' b 0 = s b 0) (h2 : s' b 2 = s b 2) (h4 : s' (b + 4) = s (b + 4)) : HS s' b R h :=
  ⟨h0.trans H.1, H.2.1, h2.trans H.2.2.1, fun r hr => by rw [h4]; exact H.2.2.2 r hr⟩
section HOUSE
variable {s : sg} {b R h : Nat} {x x1 x2 lo hi : Int32}
theorem W_within : wp (C_within x lo hi s) (yn (¬ x < lo ∧ ¬ hi < x)) := by
  unfold C_within
  exact wi (fun _ => ws (Or.inl rfl)) (fun c => wi (fun _ => ws (Or.inl rfl)) (fun c2 => ws (Or.inr ⟨rfl, c, c2⟩)))
/-- within two small naturals -/
theorem in_nI {a c : Nat} (hc : c < 2 ^ 31) (h : ¬ x < nI a ∧ ¬ nI c < x) (ha : a < 2 ^ 31) : ∃ j, a ≤ j ∧ j ≤ c ∧ x = nI j := by
  have h0 : ¬ x < 0 := fun q => h.1 (by
    rw [Int32.lt_iff_toInt_lt] at q ⊢
    rw [nI_toInt ha]
    have e : (0 : Int32).toInt = 0 := rfl
    rw [e] at q
    omega)
  obtain ⟨j, hj, rfl⟩ := nI_of h0
  rw [nI_ltI hj ha, nI_ltI hc hj] at h
  exact ⟨j, by omega, by omega, rfl⟩
theorem W_hasRoom (H : HS s b R h) : wp (H_hasRoom b x s) (yn (∃ j, j < R ∧ x = nI j)) := by
  unfold H_hasRoom
  refine wi (fun c => ws (Or.inl rfl)) (fun c => wi (fun c2 => ws (Or.inr ⟨rfl, ?_⟩)) (fun _ => ws (Or.inl rfl)))
  obtain ⟨j, hj, rfl⟩ := nI_of c
  rw [H.1, nI_ltI hj (by have := H.2.1; omega)] at c2
  exact ⟨j, c2, rfl⟩
theorem nI_m1 {n : Nat} (h : n < 2 ^ 30) {j : Nat} (hj : j < 2 ^ 31) : (nI j < nI n - nI 1) ↔ j + 1 < n := by
  rw [Int32.lt_iff_toInt_lt, pk_sub_toInt h (by decide), nI_toInt hj]
  omega
theorem W_hasWall (H : HS s b R h) : wp (H_hasWall b x s) (yn (∃ j, j + 1 < R ∧ x = nI j)) := by
  unfold H_hasWall
  refine wi (fun c => ws (Or.inl rfl)) (fun c => wi (fun c2 => ws (Or.inr ⟨rfl, ?_⟩)) (fun _ => ws (Or.inl rfl)))
  obtain ⟨j, hj, rfl⟩ := nI_of c
  rw [H.1, nI_m1 (by have := H.2.1; omega) hj] at c2
  exact ⟨j, c2, rfl⟩
theorem W_hasTongue {j : Nat} (hj : j < 6) : wp (H_hasTongue b (nI j) s) (yn (¬ s (b + 4) j = -1)) := by
  unfold H_hasTongue
  exact wm rfl hj (by decide) (wi (fun _ => ws (Or.inl rfl)) (fun c => ws (Or.inr ⟨rfl, c⟩)))
theorem W_isOn : wp (H_isOn b x s) (yn True) := by
  unfold H_isOn
  exact wi (fun _ => ws (Or.inr ⟨rfl, trivial⟩)) (fun c => ws (Or.inl rfl))
theorem W_lowOf (H : HS s b R h) {j : Nat} (hj : j < 6) (ht : ¬ s (b + 4) j = -1) : wp (H_lowOf b (nI j) s) (fun _ => True) := by
  unfold H_lowOf
  refine wm rfl hj (by decide) (wm rfl hj (by decide) ?_)
  rcases H.2.2.2 j hj with q | ⟨k, hk, q⟩
  · exact absurd q ht
  · exact wm q hk (by decide) (ws trivial)
theorem W_highOf (H : HS s b R h) {j : Nat} (hj : j < 6) (ht : ¬ s (b + 4) j = -1) : wp (H_highOf b (nI j) s) (fun _ => True) := by
  unfold H_highOf
  refine wm rfl hj (by decide) (wm rfl hj (by decide) ?_)
  rcases H.2.2.2 j hj with q | ⟨k, hk, q⟩
  · exact absurd q ht
  · exact wm q hk (by decide) (ws trivial)
def swOff (b : Nat) (s s' : sg) : Prop := ∀ p k, ¬ (p = b ∧ (k = 1 ∨ k = 4)) → s' p k = s p k
theorem swOff.hs {s s' : sg} (H : HS s b R h) (o : swOff b s s') : HS s' b R h :=
  H.keep (o b 0 (by omega)) (o b 2 (by omega)) (by funext r; exact o (b + 4) r (by omega))
theorem W_sw : ∀ (n r fu : Nat) (s : sg), HS s b R h → r + n = R → n < fu → wp (H_switchAll_2 b fu (nI r) s) (swOff b s)
  | n, r, 0, s, H, hr, hf => absurd hf (by omega)
  | n, r, fu + 1, s, H, hr, hf => by
    have hR := H.2.1
    rw [H_switchAll_2, H.1]
    refine wi (fun c => ?_) (fun c => ws (fun _ _ _ => rfl))
    rw [nI_ltI (by omega) (by omega)] at c
    obtain ⟨n, rfl⟩ : ∃ m, n = m + 1 := ⟨n - 1, by omega⟩
    have e1 : nI r + nI 1 = nI (r + 1) := nI_add r 1
    have next : ∀ s', swOff b s s' → wp (H_switchAll_2 b fu (nI r + nI 1) s') (swOff b s) := fun s' o => by
      rw [e1]
      exact wc (W_sw n (r + 1) fu s' (o.hs H) (by omega) (by omega)) (fun a ha p k hp => (ha p k hp).trans (o p k hp))
    have turn : ∀ y : Int32, wp (H_switchAll_67 (H_switchAll_2 b fu) b (nI r) y s) (swOff b s) := fun y => by
      unfold H_switchAll_67
      refine wi (fun _ => next s (fun _ _ _ => rfl)) (fun _ => wsb (wsb (next _ (fun p k hp => ?_))))
      rw [up, if_neg (fun w => hp ⟨w.1, Or.inr w.2⟩), up, if_neg (fun w => hp ⟨w.1, Or.inl w.2⟩)]
    refine wbB (W_hasTongue (by omega)) (next s (fun _ _ _ => rfl)) (fun ht => ?_)
    refine wbB W_isOn ?_ (fun _ => ?_)
    · refine wm rfl (by omega) (by decide) (wb (W_lowOf H (by omega) ht) (fun v _ => ?_))
      exact wi (fun _ => turn _) (fun _ => turn _)
    · refine wm rfl (by omega) (by decide) (wb (W_highOf H (by omega) ht) (fun v _ => ?_))
      exact wi (fun _ => turn _) (fun _ => turn _)
theorem W_switchAll (H : HS s b R h) : wp (H_switchAll b s) (swOff b s) := by
  unfold H_switchAll
  exact W_sw R 0 FU s H (by omega) (by have := H.2.1; show R < 100000; omega)
/-- the house b stands as it stood, but its numbers -/
def hrOff (b : Nat) (s s' : sg) : Prop := (∀ p k, ¬ ((p = b ∧ k = 3) ∨ p = b + 1) → s' p k = s p k)
theorem hrOff.hs {s s' : sg} (H : HS s b R h) (o : hrOff b s s') : HS s' b R h :=
  H.keep (o b 0 (by omega)) (o b 2 (by omega)) (by funext r; exact o (b + 4) r (by omega))
theorem hrOff.off {s s' : sg} (o : hrOff b s s') : offH b s s' := fun p hp => by funext k; exact o p k (by omega)
theorem swOff.off {s s' : sg} (o : swOff b s s') : offH b s s' := fun p hp => by funext k; exact o p k (by omega)
theorem W_burn {j : Nat} (hj : j < 6) : wp (H_burn b (nI j) s) (fun v => hrOff b s v.2) := by
  unfold H_burn
  refine wsb (wm rfl hj (by decide) (ws (fun p k hp => ?_)))
  show up s b 3 _ p k = s p k
  rw [up, if_neg (fun w => hp (Or.inl w))]
theorem W_hr : ∀ (n r fu : Nat) (s : sg) (x3 : Int32), HS s b R h → r + n = R → n < fu → wp (H_passHourBy_9 b x1 x2 fu x3 (nI r) s) (fun s' => HS s' b R (h + 1) ∧ offH b s s')
  | n, r, 0, s, x3, H, hr, hf => absurd hf (by omega)
  | n, r, fu + 1, s, x3, H, hr, hf => by
    have hR := H.2.1
    rw [H_passHourBy_9, H.1]
    have e1 : nI r + nI 1 = nI (r + 1) := nI_add r 1
    refine wi (fun c => ?_) (fun c => wsb (ws ⟨⟨?_, hR, ?_, fun q hq => ?_⟩, offH.up ⟨by omega, by omega⟩⟩))
    · rw [nI_ltI (by omega) (by omega)] at c
      obtain ⟨n, rfl⟩ : ∃ m, n = m + 1 := ⟨n - 1, by omega⟩
      have go : ∀ (s' : sg) (w : Int32), hrOff b s s' → wp (H_passHourBy_9 b x1 x2 fu w (nI r + nI 1) s') (fun s' => HS s' b R (h + 1) ∧ offH b s s') := fun s' w o => by
        rw [e1]
        exact wc (W_hr n (r + 1) fu s' w (o.hs H) (by omega) (by omega)) (fun a ha => ⟨ha.1, o.off.tr ha.2⟩)
      have t106 : ∀ (w5 w6 w0 : Int32) (s' : sg), hrOff b s s' → wp (H_passHourBy_106 (H_passHourBy_9 b x1 x2 fu) b x1 x2 x3 (nI r) w5 w6 w0 s') (fun s' => HS s' b R (h + 1) ∧ offH b s s') := fun w5 w6 w0 s' o => by
        unfold H_passHourBy_106
        refine wm rfl (by omega) (by decide) (wm rfl (by omega) (by decide) (wsb (go _ _ (fun p k hp => ?_))))
        rw [up, if_neg (fun w => hp (Or.inr w.1))]
        exact o p k hp
      have t59 : ∀ w0 : Int32, wp (H_passHourBy_59 (H_passHourBy_9 b x1 x2 fu) b x1 x2 x3 (nI r) w0 s) (fun s' => HS s' b R (h + 1) ∧ offH b s s') := fun w0 => by
        unfold H_passHourBy_59 H_passHourBy_105
        refine wm rfl (by omega) (by decide) (wm rfl (by omega) (by decide) (wbB W_isOn (t106 _ _ _ _ (fun _ _ _ => rfl)) (fun _ => wi (fun _ => ?_) (fun _ => t106 _ _ _ _ (fun _ _ _ => rfl)))))
        exact wb (W_burn (by omega)) (fun v hv => t106 _ _ _ _ hv)
      refine wbB (W_hasWall H) (t59 _) (fun q => ?_)
      obtain ⟨j, hj, ej⟩ := q
      have ej : r = j := (nI_eq (by omega) (by omega)).mp ej
      subst ej
      exact wm rfl (by omega) (by decide) (wm rfl (by omega) (by decide) (wm e1 (by omega) (by decide) (t59 _)))
    · rw [up_k (by omega)]; exact H.1
    · rw [up_eq, H.2.2.1]; exact nI_add h 1
    · rw [up_p (by omega)]; exact H.2.2.2 q hq
theorem W_passHourBy (H : HS s b R h) : wp (H_passHourBy b x1 x2 s) (fun s' => HS s' b R (h + 1) ∧ offH b s s') := by
  unfold H_passHourBy
  refine wb (W_switchAll H) (fun s1 o => wc (W_hr R 0 FU s1 (nI 0) (o.hs H) (by omega) (by have := H.2.1; show R < 100000; omega)) (fun a ha => ⟨ha.1, o.off.tr ha.2⟩))
theorem rem8 {h : Nat} (hh : h < 2 ^ 30) : nI h - nI h / nI 8 * nI 8 = nI (h % 8) := pk_rem (by omega) (by decide) (by decide)
theorem W_skyNow (H : HS s b R h) (hh : h < 2 ^ 30) : wp (H_skyNow b s) (fun _ => True) := by
  unfold H_skyNow
  rw [H.2.2.1, rem8 hh]
  exact wm rfl (Nat.mod_lt _ (by decide)) (by decide) (ws trivial)
theorem W_passHour (H : HS s b R h) (hh : h < 2 ^ 30) : wp (H_passHour b s) (fun s' => HS s' b R (h + 1) ∧ offH b s s') := by
  unfold H_passHour
  exact wb (W_skyNow H hh) (fun v _ => wb (W_passHourBy H) (fun s1 h1 => ws h1))
end HOUSE
end Q40
section Q41
/-! houses, further -/
def dj (b c : Nat) : Prop := b + 7 < c ∨ c + 7 < b
def hN (i : Nat) : Nat := match i with
  | 0 => 5
  | 6 => 5
  | 7 => 8
  | _ => 6
/-- the house b as the house c is -/
def cpH (s : sg) (b c : Nat) : sg := fun p k => if b ≤ p ∧ p ≤ b + 7 ∧ k < hN (p - b) then s (c + (p - b)) k else s p k
theorem cp5 {s : sg} {b c : Nat} (h : c ≠ b) : up (up (up (up (up s b 0 (s c 0)) b 1 (s c 1)) b 2 (s c 2)) b 3 (s c 3)) b 4 (s c 4) = fun p k => if p = b ∧ k < 5 then s c k else s p k := by
  funext p k
  by_cases hp : p = b
  · subst hp
    match k with
    | 0 => simp [up]
    | 1 => simp [up]
    | 2 => simp [up]
    | 3 => simp [up]
    | 4 => simp [up]
    | k + 5 => simp (disch := omega) only [up, if_neg]
  · simp (disch := omega) only [up, if_neg]
def cpG (s : sg) (b c m : Nat) : sg := fun p k => if b ≤ p ∧ p < b + m ∧ k < hN (p - b) then s (c + (p - b)) k else s p k
theorem cpG_step {s : sg} {b c m : Nat} (h : dj b c) (h7 : m ≤ 7) : cpy (cpG s b c m) (c + m) (b + m) (hN m) = cpG s b c (m + 1) := by
  unfold dj at h
  funext p k
  show (if p = b + m ∧ k < hN m then cpG s b c m (c + m) k else cpG s b c m p k) = cpG s b c (m + 1) p k
  have e0 : cpG s b c m (c + m) k = s (c + m) k := if_neg (fun w => by
    have h1 := w.1
    have h2 := w.2.1
    omega)
  rw [e0]
  by_cases hp : p = b + m
  · subst hp
    have e2 : b + m - b = m := by omega
    unfold cpG
    rw [e2]
    by_cases hk : k < hN m
    · rw [if_pos ⟨rfl, hk⟩, if_pos ⟨by omega, by omega, hk⟩]
    · rw [if_neg (fun w => hk w.2), if_neg (fun w => hk w.2.2), if_neg (fun w => hk w.2.2)]
  · rw [if_neg (fun w => hp w.1)]
    unfold cpG
    by_cases hc : b ≤ p ∧ p < b + m ∧ k < hN (p - b)
    · rw [if_pos hc, if_pos ⟨hc.1, by omega, hc.2.2⟩]
    · rw [if_neg hc, if_neg (fun w => hc ⟨w.1, by omega, w.2.2⟩)]
theorem copyFrom_eq {s : sg} {b c : Nat} (h : dj b c) : H_copyFrom b c s = some (cpH s b c) := by
  unfold dj at h
  have e1 : ∀ v, up s b 0 v c 1 = s c 1 := fun v => up_p (by omega)
  unfold H_copyFrom
  simp only [Option.bind_some]
  have e : up (up (up (up (up s b 0 (s c 0)) b 1 (up s b 0 (s c 0) c 1)) b 2 (up (up s b 0 (s c 0)) b 1 (up s b 0 (s c 0) c 1) c 2)) b 3 (up (up (up s b 0 (s c 0)) b 1 (up s b 0 (s c 0) c 1)) b 2 (up (up s b 0 (s c 0)) b 1 (up s b 0 (s c 0) c 1) c 2) c 3)) b 4
      (up (up (up (up s b 0 (s c 0)) b 1 (up s b 0 (s c 0) c 1)) b 2 (up (up s b 0 (s c 0)) b 1 (up s b 0 (s c 0) c 1) c 2)) b 3 (up (up (up s b 0 (s c 0)) b 1 (up s b 0 (s c 0) c 1)) b 2 (up (up s b 0 (s c 0)) b 1 (up s b 0 (s c 0) c 1) c 2) c 3) c 4) = fun p k => if p = b ∧ k < 5 then s c k else s p k := by
    rw [← cp5 (s := s) (b := b) (c := c) (by omega)]
    simp (disch := omega) only [up_p]
  have e' : (fun p k => if p = b ∧ k < 5 then s c k else s p k) = cpG s b c 1 := by
    funext p k
    unfold cpG
    by_cases hp : p = b
    · subst hp
      rw [Nat.sub_self]
      by_cases hk : k < 5
      · rw [if_pos ⟨rfl, hk⟩, if_pos ⟨Nat.le_refl _, by omega, hk⟩]; rfl
      · rw [if_neg (fun w => hk w.2), if_neg (fun w => hk w.2.2)]
    · rw [if_neg (fun w => hp w.1), if_neg (fun w => by have h1 := w.1; have h2 := w.2.1; omega)]
  rw [e, e']
  have h' : dj b c := h
  have t1 : cpy (cpG s b c 1) (c + 1) (b + 1) 6 = cpG s b c 2 := cpG_step h' (by decide)
  have t2 : cpy (cpG s b c 2) (c + 2) (b + 2) 6 = cpG s b c 3 := cpG_step h' (by decide)
  have t3 : cpy (cpG s b c 3) (c + 3) (b + 3) 6 = cpG s b c 4 := cpG_step h' (by decide)
  have t4 : cpy (cpG s b c 4) (c + 4) (b + 4) 6 = cpG s b c 5 := cpG_step h' (by decide)
  have t5 : cpy (cpG s b c 5) (c + 5) (b + 5) 6 = cpG s b c 6 := cpG_step h' (by decide)
  have t6 : cpy (cpG s b c 6) (c + 6) (b + 6) 5 = cpG s b c 7 := cpG_step h' (by decide)
  have t7 : cpy (cpG s b c 7) (c + 7) (b + 7) 8 = cpG s b c 8 := cpG_step h' (by decide)
  rw [t1, t2, t3, t4, t5, t6, t7]
  refine congrArg some (funext fun p => funext fun k => ?_)
  unfold cpG cpH
  by_cases hc : b ≤ p ∧ p ≤ b + 7 ∧ k < hN (p - b)
  · rw [if_pos hc, if_pos ⟨hc.1, by omega, hc.2.2⟩]
  · rw [if_neg hc, if_neg (fun w => hc ⟨w.1, by omega, w.2.2⟩)]
theorem cpH_off {s : sg} {b c : Nat} : offH b s (cpH s b c) := fun p hp => by
  funext k; exact if_neg (by omega)
theorem cpH_at {s : sg} {b c i k : Nat} (hi : i ≤ 7) (hk : k < hN i) : cpH s b c (b + i) k = s (c + i) k := by
  unfold cpH
  rw [show b + i - b = i by omega, if_pos ⟨by omega, by omega, hk⟩]
theorem cpH_hs {s : sg} {b c R h : Nat} (H : HS s c R h) : HS (cpH s b c) b R h := by
  refine ⟨?_, H.2.1, ?_, fun r hr => ?_⟩
  · exact (cpH_at (i := 0) (by decide) (by decide)).trans H.1
  · exact (cpH_at (i := 0) (by decide) (by decide)).trans H.2.2.1
  · rw [cpH_at (i := 4) (by decide) (by exact hr)]; exact H.2.2.2 r hr
section HOUSE2
variable {s : sg} {b R h : Nat} {x x1 x2 x3 lo hi : Int32}
theorem W_copyFrom {c : Nat} (hd : dj b c) (H : HS s c R h) : wp (H_copyFrom b c s) (fun s' => HS s' b R h ∧ offH b s s') := ⟨_, copyFrom_eq hd, cpH_hs H, cpH_off⟩
theorem W_passHours7 {N : Nat} (hN : N < 1000) : ∀ (n r fu : Nat) (s : sg) (h : Nat), HS s b R h → h + n < 2 ^ 29 → r + n = N → n < fu → wp (H_passHours_7 b (nI N) x2 fu (nI r) s) (fun v => HS v.2 b R (h + n) ∧ offH b s v.2)
  | n, r, 0, s, h, H, hh, hr, hf => absurd hf (by omega)
  | n, r, fu + 1, s, h, H, hh, hr, hf => by
    rw [H_passHours_7]
    refine wi (fun c => ?_) (fun c => ws ⟨?_, offH.rf⟩)
    · rw [nI_ltI (by omega) (by omega)] at c
      obtain ⟨n, rfl⟩ : ∃ m, n = m + 1 := ⟨n - 1, by omega⟩
      refine wb (W_passHour H (by omega)) (fun s1 h1 => ?_)
      rw [nI_add]
      exact wc (W_passHours7 hN n (r + 1) fu s1 (h + 1) h1.1 (by omega) (by omega) (by omega)) (fun v hv => ⟨by rw [show h + (n + 1) = h + 1 + n by omega]; exact hv.1, h1.2.tr hv.2⟩)
    · rw [nI_ltI (by omega) (by omega)] at c
      rw [show n = 0 by omega]; exact H
theorem W_passHours {N : Nat} (hN : N < 1000) (H : HS s b R h) (hh : h < 2 ^ 28) : wp (H_passHours b (nI N) s) (fun v => HS v.2 b R (h + N) ∧ offH b s v.2) := by
  unfold H_passHours
  exact W_passHours7 hN N 0 FU s h H (by omega) (by omega) (by show N < 100000; omega)
theorem W_stays3 {N j : Nat} (hN : N < 1000) (hj : j < 6) : ∀ (n r fu : Nat) (s : sg) (h : Nat), HS s b R h → h + n < 2 ^ 29 → r + n = N → n < fu → wp (H_staysWarm_3 b (nI j) (nI N) x3 fu (nI r) s) (fun v => yn True v.1 ∧ offH b s v.2)
  | n, r, 0, s, h, H, hh, hr, hf => absurd hf (by omega)
  | n, r, fu + 1, s, h, H, hh, hr, hf => by
    rw [H_staysWarm_3]
    refine wi (fun c => ?_) (fun c => ws ⟨Or.inr ⟨rfl, trivial⟩, offH.rf⟩)
    rw [nI_ltI (by omega) (by omega)] at c
    obtain ⟨n, rfl⟩ : ∃ m, n = m + 1 := ⟨n - 1, by omega⟩
    refine wb (W_passHour H (by omega)) (fun s1 h1 => wm rfl hj (by decide) (wi (fun _ => ws ⟨Or.inl rfl, h1.2⟩) (fun _ => ?_)))
    rw [nI_add]
    exact wc (W_stays3 hN hj n (r + 1) fu s1 (h + 1) h1.1 (by omega) (by omega) (by omega)) (fun v hv => ⟨hv.1, h1.2.tr hv.2⟩)
theorem W_staysWarm {N j : Nat} (hN : N < 1000) (hj : j < 6) (H : HS s b R h) (hh : h < 2 ^ 28) : wp (H_staysWarm b (nI j) (nI N) x3 s) (fun v => yn True v.1 ∧ offH b s v.2) := by
  unfold H_staysWarm
  exact W_stays3 hN hj N 0 FU s h H (by omega) (by omega) (by show N < 100000; omega)
theorem W_cold5 (H : HS s b R h) : ∀ (n r fu : Nat) (x1 : Int32), r + n = R → n < fu → wp (H_coldestNow_5 b s fu x1 (nI r)) (fun _ => True)
  | n, r, 0, x1, hr, hf => absurd hf (by omega)
  | n, r, fu + 1, x1, hr, hf => by
    have hR := H.2.1
    rw [H_coldestNow_5, H.1]
    refine wi (fun c => ?_) (fun c => ws trivial)
    rw [nI_ltI (by omega) (by omega)] at c
    obtain ⟨n, rfl⟩ : ∃ m, n = m + 1 := ⟨n - 1, by omega⟩
    refine wm rfl (by omega) (by decide) ?_
    rw [nI_add]
    exact W_cold5 H n (r + 1) fu _ (by omega) (by omega)
theorem W_coldestNow (H : HS s b R h) : wp (H_coldestNow b s) (fun _ => True) := by
  unfold H_coldestNow
  exact W_cold5 H R 0 FU _ (by omega) (by have := H.2.1; show R < 100000; omega)
theorem W_burnt8 {N : Nat} (hN : N < 1000) : ∀ (n r fu : Nat) (s : sg) (h : Nat), HS s b R h → h + n < 2 ^ 29 → r + n = N → n < fu → wp (H_burntAllWarm_8 b (nI N) x2 x3 fu (nI r) s) (fun v => offH b s v.2)
  | n, r, 0, s, h, H, hh, hr, hf => absurd hf (by omega)
  | n, r, fu + 1, s, h, H, hh, hr, hf => by
    rw [H_burntAllWarm_8]
    refine wi (fun c => ?_) (fun c => ws offH.rf)
    rw [nI_ltI (by omega) (by omega)] at c
    obtain ⟨n, rfl⟩ : ∃ m, n = m + 1 := ⟨n - 1, by omega⟩
    refine wb (W_passHour H (by omega)) (fun s1 h1 => wb (W_coldestNow h1.1) (fun v2 _ => wi (fun _ => ws h1.2) (fun _ => ?_)))
    rw [nI_add]
    exact wc (W_burnt8 hN n (r + 1) fu s1 (h + 1) h1.1 (by omega) (by omega) (by omega)) (fun v hv => h1.2.tr hv)
theorem W_burntAllWarm {N : Nat} (hN : N < 1000) (H : HS s b R h) (hh : h < 2 ^ 28) : wp (H_burntAllWarm b (nI N) x2 s) (fun v => offH b s v.2) := by
  unfold H_burntAllWarm
  exact W_burnt8 hN N 0 FU s h H (by omega) (by omega) (by show N < 100000; omega)
theorem W_sum4 {p m : Nat} (hm : m < 1000) : ∀ (n r fu : Nat) (x2 : Int32), r + n = m → n < fu → wp (C_sumOf_4 p m x1 s fu x2 (nI r)) (fun _ => True)
  | n, r, 0, x2, hr, hf => absurd hf (by omega)
  | n, r, fu + 1, x2, hr, hf => by
    rw [C_sumOf_4]
    refine wi (fun c => wi (fun c => ?_) (fun _ => ws trivial)) (fun _ => ws trivial)
    rw [nI_ltI (by omega) (by omega)] at c
    obtain ⟨n, rfl⟩ : ∃ m, n = m + 1 := ⟨n - 1, by omega⟩
    refine wm rfl (by omega) (by omega) ?_
    rw [nI_add]
    exact W_sum4 hm n (r + 1) fu _ (by omega) (by omega)
theorem W_sumOf {p m : Nat} (hm : m < 1000) : wp (C_sumOf p m x1 s) (fun _ => True) := by
  unfold C_sumOf
  exact W_sum4 hm m 0 FU _ (by omega) (by show m < 100000; omega)
theorem W_warmthOfAll : wp (H_warmthOfAll b s) (fun _ => True) := by
  unfold H_warmthOfAll
  exact wb (W_sumOf (by decide)) (fun v _ => ws trivial)
theorem W_like2 {c : Nat} (H : HS s b R h) : ∀ (n r fu : Nat), r + n = R → n < fu → wp (H_isLike_2 b c s fu (nI r)) (yn True)
  | n, r, 0, hr, hf => absurd hf (by omega)
  | n, r, fu + 1, hr, hf => by
    have hR := H.2.1
    rw [H_isLike_2, H.1]
    refine wi (fun c => ?_) (fun c => wi (fun _ => ws (Or.inr ⟨rfl, trivial⟩)) (fun _ => ws (Or.inl rfl)))
    rw [nI_ltI (by omega) (by omega)] at c
    obtain ⟨n, rfl⟩ : ∃ m, n = m + 1 := ⟨n - 1, by omega⟩
    refine wm rfl (by omega) (by decide) (wm rfl (by omega) (by decide) (wi (fun _ => ?_) (fun _ => ws (Or.inl rfl))))
    rw [nI_add]
    exact W_like2 H n (r + 1) fu (by omega) (by omega)
theorem W_isLike {c : Nat} (H : HS s b R h) : wp (H_isLike b c s) (yn True) := by
  unfold H_isLike
  exact W_like2 H R 0 FU (by omega) (by have := H.2.1; show R < 100000; omega)
theorem W_markRefused (H : HS s b R h) : wp (H_markRefused b x1 x2 s) (fun v => v = 0 → ∃ j, j < R ∧ x1 = nI j) := by
  unfold H_markRefused
  refine wbB (W_hasRoom H) (ws (fun q => absurd q (by decide))) (fun q => wbB W_within (ws (fun q => absurd q (by decide))) (fun _ => ?_))
  obtain ⟨j, hj, rfl⟩ := q
  exact wbB (W_hasTongue (by have := H.2.1; omega)) (ws (fun q => absurd q (by decide))) (fun _ => ws (fun _ => ⟨j, hj, rfl⟩))
theorem W_takesMark (H : HS s b R h) (hh : h < 2 ^ 29) : wp (H_takesMarkAndHour b x1 x2 s) (fun v => yn True v.1 ∧ offH b s v.2 ∧ ((v.1 = nI 1 ∧ h < 999 ∧ HS v.2 b R (h + 1)) ∨ HS v.2 b R h)) := by
  unfold H_takesMarkAndHour
  refine wb (W_markRefused H) (fun v hv => wi (fun c => wi (fun c2 => ?_) (fun _ => ws ⟨Or.inl rfl, offH.rf, Or.inr H⟩)) (fun _ => ws ⟨Or.inl rfl, offH.rf, Or.inr H⟩))
  obtain ⟨j, hj, rfl⟩ := hv c
  have hR := H.2.1
  rw [H.2.2.1, nI_ltI (by omega) (by decide)] at c2
  refine wm rfl (by omega) (by decide) (wsb ?_)
  have H1 : HS (up s (b + 5) j x2) b R h := H.keep (up_p (by omega)) (up_p (by omega)) (by funext r; exact up_p (by omega))
  exact wb (W_passHour H1 (by omega)) (fun s2 h2 => ws ⟨Or.inr ⟨rfl, trivial⟩, (offH.up ⟨by omega, by omega⟩).tr h2.2, Or.inl ⟨rfl, c2, h2.1⟩⟩)
theorem W_takeTongue {j : Nat} (hj : j < 6) (H : HS s b R h) : wp (H_takeTongue b (nI j) s) (fun s' => HS s' b R h ∧ offH b s s') := by
  unfold H_takeTongue
  refine wm rfl hj (by decide) (wsb (wsb (ws ⟨⟨?_, H.2.1, ?_, fun r hr => ?_⟩, ?_⟩)))
  · rw [up_k (by omega), up_p (by omega)]; exact H.1
  · rw [up_k (by omega), up_p (by omega)]; exact H.2.2.1
  · rw [up_p (by omega)]
    by_cases e : r = j
    · subst e; rw [up_eq]; exact Or.inl rfl
    · rw [up_k e]; exact H.2.2.2 r hr
  · exact (offH.up ⟨by omega, by omega⟩).tr (offH.up ⟨by omega, by omega⟩)
theorem W_exchange {p n j : Nat} (hj : j < n) (hn : n < 1000) : wp (C_exchange p n (nI j) x2 s) (fun v => v = (s p j, up s p j x2)) := by
  unfold C_exchange
  exact wm rfl hj (by omega) (wm rfl hj (by omega) (wsb (ws rfl)))
theorem W_exT {i j : Nat} (hi : i < 6) (hj : j < 6) (H : HS s b R h) : wp (H_exchangeTongues b (nI i) (nI j) s) (fun s' => HS s' b R h ∧ offH b s s') := by
  unfold H_exchangeTongues
  refine wm rfl hi (by decide) (wb (W_exchange hj (by decide)) (fun v hv => ?_))
  subst hv
  refine wm rfl hi (by decide) (wsb (wm rfl hi (by decide) (wb (W_exchange hj (by decide)) (fun v hv => ?_))))
  subst hv
  refine wm rfl hi (by decide) (wsb ?_)
  dsimp only
  have H1 : HS (up (up (up (up s (b + 4) j (s (b + 4) i)) (b + 4) i (s (b + 4) j)) (b + 5) j (up (up s (b + 4) j (s (b + 4) i)) (b + 4) i (s (b + 4) j) (b + 5) i)) (b + 5) i (up (up s (b + 4) j (s (b + 4) i)) (b + 4) i (s (b + 4) j) (b + 5) j)) b R h := by
    refine ⟨?_, H.2.1, ?_, fun r hr => ?_⟩
    · rw [up_p (by omega), up_p (by omega), up_p (by omega), up_p (by omega)]; exact H.1
    · rw [up_p (by omega), up_p (by omega), up_p (by omega), up_p (by omega)]; exact H.2.2.1
    · rw [up_p (by omega), up_p (by omega)]
      by_cases e : r = i
      · subst e; rw [up_eq]; exact H.2.2.2 j hj
      · rw [up_k e]
        by_cases e2 : r = j
        · subst e2; rw [up_eq]; exact H.2.2.2 i hi
        · rw [up_k e2]; exact H.2.2.2 r hr
  have o1 : offH b s (up (up (up (up s (b + 4) j (s (b + 4) i)) (b + 4) i (s (b + 4) j)) (b + 5) j (up (up s (b + 4) j (s (b + 4) i)) (b + 4) i (s (b + 4) j) (b + 5) i)) (b + 5) i (up (up s (b + 4) j (s (b + 4) i)) (b + 4) i (s (b + 4) j) (b + 5) j)) :=
    (((offH.up ⟨by omega, by omega⟩).tr (offH.up ⟨by omega, by omega⟩)).tr (offH.up ⟨by omega, by omega⟩)).tr (offH.up ⟨by omega, by omega⟩)
  have t53 : ∀ s', HS s' b R h → offH b s s' → wp (H_exchangeTongues_53 b (nI j) s') (fun s' => HS s' b R h ∧ offH b s s') := fun s' h1 h2 => by
    unfold H_exchangeTongues_53
    exact wbB (W_hasTongue hj) (wb (W_takeTongue hj h1) (fun s3 h3 => ws ⟨h3.1, h2.tr h3.2⟩)) (fun _ => ws ⟨h1, h2⟩)
  exact wbB (W_hasTongue hi) (wb (W_takeTongue hi H1) (fun s3 h3 => t53 s3 h3.1 (o1.tr h3.2))) (fun _ => t53 _ H1 o1)
end HOUSE2
end Q41
section Q42
/-! the class's questions: they end, and write in the trial houses alone -/
def offT (s s' : sg) : Prop := ∀ p, ¬ (53 ≤ p ∧ p ≤ 132) → s' p = s p
theorem offT.rf {s : sg} : offT s s := fun _ _ => rfl
theorem offT.tr {s s' s'' : sg} (h1 : offT s s') (h2 : offT s' s'') : offT s s'' := fun p hp => (h2 p hp).trans (h1 p hp)
theorem offH.t {s s' : sg} {b : Nat} (o : offH b s s') (h1 : 53 ≤ b) (h2 : b + 7 ≤ 132) : offT s s' := fun p hp => o p (by omega)
theorem HS.t {s s' : sg} {b R h : Nat} (H : HS s b R h) (o : offT s s') (hb : b + 7 < 53) : HS s' b R h :=
  H.keep (by rw [o b (by omega)]) (by rw [o b (by omega)]) (o (b + 4) (by omega))
section QUEST
variable {s : sg} {R h : Nat} {x x1 x2 x3 x4 x5 : Int32}
theorem W_copyOfNow (H : HS s 11 R h) : wp (C_copyOfNow s) (fun s1 => HS s1 53 R h ∧ offT s s1) := by
  unfold C_copyOfNow
  exact wb (W_copyFrom (Or.inr (by decide)) H) (fun s1 h1 => ws ⟨h1.1, h1.2.t (by decide) (by decide)⟩)
theorem W_coldW13 {N : Nat} (hN : N < 1000) : ∀ (n r fu : Nat) (s : sg) (h : Nat) (x3 : Int32), HS s 53 R h → h + n < 2 ^ 29 → r + n = N → n < fu → wp (C_coldestWithin_13 (nI N) fu x3 (nI r) s) (fun v => offT s v.2)
  | n, r, 0, s, h, x3, H, hh, hr, hf => absurd hf (by omega)
  | n, r, fu + 1, s, h, x3, H, hh, hr, hf => by
    rw [C_coldestWithin_13]
    refine wi (fun c => ?_) (fun c => ws offT.rf)
    rw [nI_ltI (by omega) (by omega)] at c
    obtain ⟨n, rfl⟩ : ∃ m, n = m + 1 := ⟨n - 1, by omega⟩
    refine wb (W_passHour H (by omega)) (fun s1 h1 => wb (W_coldestNow h1.1) (fun v2 _ => ?_))
    rw [nI_add]
    exact wc (W_coldW13 hN n (r + 1) fu s1 (h + 1) _ h1.1 (by omega) (by omega) (by omega)) (fun v hv => (h1.2.t (by decide) (by decide)).tr hv)
theorem W_C_runs (H : HS s 11 R h) (hh : h ≤ 999) : wp (C_runs x1 x2 s) (fun v => offT s v.2) := by
  unfold C_runs
  refine wbB W_within (ws offT.rf) (fun q => wbB W_within (ws offT.rf) (fun _ => ?_))
  obtain ⟨N, -, hN, rfl⟩ := in_nI (by decide) q (by decide)
  refine wi (fun _ => wi (fun _ => ws offT.rf) (fun _ => ?_)) (fun _ => ?_)
  · refine wb (P := fun v => offT s v.2) ?_ (fun v hv => ws hv)
    unfold C_coldestWithin
    exact wb (W_copyOfNow H) (fun s1 h1 => wb (W_coldestNow h1.1) (fun v _ => wc (W_coldW13 (by omega) N 0 FU s1 h v h1.1 (by omega) (by omega) (by show N < 100000; omega)) (fun a ha => h1.2.tr ha)))
  · refine wb (W_copyOfNow H) (fun s1 h1 => wb (W_passHours (by omega) h1.1 (by omega)) (fun v hv => ?_))
    have o : offT s v.2 := h1.2.tr (hv.2.t (by decide) (by decide))
    exact wi (fun _ => ws o) (fun _ => wi (fun _ => ws o) (fun _ => wi (fun _ => wb W_warmthOfAll (fun _ _ => ws o)) (fun _ => ws o)))
theorem W_C_ahead (H : HS s 11 R h) (hh : h ≤ 999) : wp (C_ahead x1 x2 x3 s) (fun v => offT s v.2) := by
  unfold C_ahead
  refine wbB (W_hasRoom H) (ws offT.rf) (fun q0 => wbB W_within (ws offT.rf) (fun q => wbB W_within (ws offT.rf) (fun _ => ?_)))
  obtain ⟨j, hj, rfl⟩ := q0
  obtain ⟨N, -, hN, rfl⟩ := in_nI (by decide) q (by decide)
  have hR := H.2.1
  refine wb (W_copyOfNow H) (fun s1 h1 => wb (W_passHours (by omega) h1.1 (by omega)) (fun v hv => ?_))
  have o : offT s v.2 := h1.2.tr (hv.2.t (by decide) (by decide))
  exact wi (fun _ => wm rfl (by omega) (by decide) (ws o)) (fun _ => wbB W_isOn (ws o) (fun _ => ws o))
theorem W_cold31 {j : Nat} (hj : j < 6) : ∀ (n r fu : Nat) (s : sg) (h : Nat), HS s 53 R h → h + n < 2 ^ 29 → r + n = 61 → n < fu → wp (C_cold_31 (nI j) x2 fu (nI r) s) (fun v => offT s v.2)
  | n, r, 0, s, h, H, hh, hr, hf => absurd hf (by omega)
  | n, r, fu + 1, s, h, H, hh, hr, hf => by
    rw [C_cold_31]
    refine wi (fun c => ws offT.rf) (fun c => wm rfl hj (by decide) (wi (fun _ => ?_) (fun _ => ws offT.rf)))
    rw [nI_ltI (by decide) (by omega)] at c
    obtain ⟨n, rfl⟩ : ∃ m, n = m + 1 := ⟨n - 1, by omega⟩
    refine wb (W_passHour H (by omega)) (fun s1 h1 => ?_)
    rw [nI_add]
    exact wc (W_cold31 hj n (r + 1) fu s1 (h + 1) h1.1 (by omega) (by omega) (by omega)) (fun v hv => (h1.2.t (by decide) (by decide)).tr hv)
theorem W_C_cold (H : HS s 11 R h) (hh : h ≤ 999) : wp (C_cold x1 x2 s) (fun v => offT s v.2) := by
  unfold C_cold
  refine wbB (W_hasRoom H) (ws offT.rf) (fun q0 => wbB W_within (ws offT.rf) (fun _ => ?_))
  obtain ⟨j, hj, rfl⟩ := q0
  have hR := H.2.1
  exact wb (W_copyOfNow H) (fun s1 h1 => wc (W_cold31 (by omega) 61 0 FU s1 h h1.1 (by omega) (by omega) (by decide)) (fun v hv => h1.2.tr hv))
theorem W_again8 : ∀ (n q fu : Nat) (s : sg) (h : Nat), HS s 53 R h → h + 8 * n < 2 ^ 28 → q + n = 8 → n < fu → wp (C_again_8 fu (nI (8 * q)) s) (fun v => offT s v.2)
  | n, q, 0, s, h, H, hh, hr, hf => absurd hf (by omega)
  | n, q, fu + 1, s, h, H, hh, hr, hf => by
    rw [C_again_8]
    refine wi (fun c => ws offT.rf) (fun c => ?_)
    rw [nI_ltI (by decide) (by omega)] at c
    obtain ⟨n, rfl⟩ : ∃ m, n = m + 1 := ⟨n - 1, by omega⟩
    refine wb (W_passHours (N := 8) (by decide) H (by omega)) (fun v hv => ?_)
    have o := hv.2.t (by decide) (by decide)
    refine wbB (W_isLike hv.1) ?_ (fun _ => ws o)
    rw [nI_add, show 8 * q + 8 = 8 * (q + 1) by omega]
    exact wc (W_again8 n (q + 1) fu v.2 (h + 8) hv.1 (by omega) (by omega) (by omega)) (fun w hw => o.tr hw)
theorem W_C_again (H : HS s 11 R h) (hh : h ≤ 999) : wp (C_again s) (fun v => offT s v.2) := by
  unfold C_again
  exact wb (W_copyOfNow H) (fun s1 h1 => wc (W_again8 7 1 FU s1 h h1.1 (by omega) (by omega) (by decide)) (fun v hv => h1.2.tr hv))
theorem HS.up5 {b k : Nat} {v : Int32} (H : HS s b R h) : HS (up s (b + 5) k v) b R h := H.keep (up_p (by omega)) (up_p (by omega)) (by funext r; exact up_p (by omega))
theorem HS.up6 {b k : Nat} {v : Int32} (H : HS s b R h) : HS (up s (b + 6) k v) b R h := H.keep (up_p (by omega)) (up_p (by omega)) (by funext r; exact up_p (by omega))
theorem HS.up4 {b k : Nat} {v : Int32} (H : HS s b R h) (hv : tg v) : HS (up s (b + 4) k v) b R h := by
  refine ⟨(up_p (by omega)).trans H.1, H.2.1, (up_p (by omega)).trans H.2.2.1, fun r hr => ?_⟩
  by_cases e : r = k
  · subst e; rw [up_eq]; exact hv
  · rw [up_k e]; exact H.2.2.2 r hr
theorem offT.up {p k : Nat} {v : Int32} (h : 53 ≤ p ∧ p ≤ 132) : offT s (up s p k v) := fun q hq => up_off (by omega)
theorem W_need50 {j N : Nat} (hj : j < 6) (hN : N < 1000) (hh : h ≤ 999) : ∀ (n r fu : Nat) (s : sg), HS s 11 R h → r + n = 100 → n < fu → wp (C_need_50 (nI j) (nI N) x3 fu (nI r) s) (fun v => offT s v.2)
  | n, r, 0, s, H, hr, hf => absurd hf (by omega)
  | n, r, fu + 1, s, H, hr, hf => by
    rw [C_need_50]
    refine wi (fun c => ws offT.rf) (fun c => ?_)
    rw [nI_ltI (by decide) (by omega)] at c
    obtain ⟨n, rfl⟩ : ∃ m, n = m + 1 := ⟨n - 1, by omega⟩
    refine wb (W_copyOfNow H) (fun s1 h1 => wm rfl hj (by decide) (wsb (wb (W_staysWarm hN hj (h1.1.up5) (by omega)) (fun v hv => ?_))))
    have o : offT s v.2 := (h1.2.tr (offT.up (by decide))).tr (hv.2.t (by decide) (by decide))
    refine wi (fun _ => ?_) (fun _ => ws o)
    rw [nI_add]
    exact wc (W_need50 hj hN hh n (r + 1) fu v.2 (H.t o (by decide)) (by omega) (by omega)) (fun w hw => o.tr hw)
theorem W_C_need (H : HS s 11 R h) (hh : h ≤ 999) : wp (C_need x1 x2 x3 s) (fun v => offT s v.2) := by
  unfold C_need
  refine wbB (W_hasRoom H) (ws offT.rf) (fun q0 => wbB W_within (ws offT.rf) (fun q => wbB W_within (ws offT.rf) (fun _ => ?_)))
  obtain ⟨j, hj, rfl⟩ := q0
  obtain ⟨N, -, hN, rfl⟩ := in_nI (by decide) q (by decide)
  have hR := H.2.1
  exact wbB (W_hasTongue (by omega)) (ws offT.rf) (fun _ => W_need50 (by omega) (by omega) hh 100 0 FU s H (by omega) (by decide))
theorem W_chosen {u1 u2 u3 : Int32} : wp (C_chosen u1 u2 u3 s) (fun _ => True) := by
  unfold C_chosen
  exact wi (fun _ => ws trivial) (fun _ => wi (fun _ => ws trivial) (fun _ => ws trivial))
theorem W_kind58 {j N : Nat} (hj : j < 6) (hN : N < 1000) (hh : h ≤ 999) : ∀ (n r fu : Nat) (s : sg) (x4 x5 : Int32), HS s 11 R h → r + n = 4 → n < fu → wp (C_kind_58 (nI j) (nI N) x3 fu x4 x5 (nI r) s) (fun v => offT s v.2)
  | n, r, 0, s, x4, x5, H, hr, hf => absurd hf (by omega)
  | n, r, fu + 1, s, x4, x5, H, hr, hf => by
    rw [C_kind_58]
    refine wi (fun c => wb W_chosen (fun _ _ => ws offT.rf)) (fun c => ?_)
    rw [nI_ltI (by decide) (by omega)] at c
    obtain ⟨n, rfl⟩ : ∃ m, n = m + 1 := ⟨n - 1, by omega⟩
    refine wb (W_copyOfNow H) (fun s1 h1 => wm rfl hj (by decide) (wsb (wb (W_passHours hN (h1.1.up4 (Or.inr ⟨r, by omega, rfl⟩)) (by omega)) (fun v hv => ?_))))
    have o : offT s v.2 := (h1.2.tr (offT.up (by decide))).tr (hv.2.t (by decide) (by decide))
    have k : ∀ y4 y5 : Int32, wp (C_kind_58 (nI j) (nI N) x3 fu y4 y5 (nI r + nI 1) v.2) (fun v => offT s v.2) := fun y4 y5 => by
      rw [nI_add]
      exact wc (W_kind58 hj hN hh n (r + 1) fu v.2 y4 y5 (H.t o (by decide)) (by omega) (by omega)) (fun w hw => o.tr hw)
    exact wi (fun _ => k _ _) (fun _ => k _ _)
theorem W_C_kind (H : HS s 11 R h) (hh : h ≤ 999) : wp (C_kind x1 x2 x3 s) (fun v => offT s v.2) := by
  unfold C_kind
  refine wbB (W_hasRoom H) (ws offT.rf) (fun q0 => wbB W_within (ws offT.rf) (fun q => wbB W_within (ws offT.rf) (fun _ => ?_)))
  obtain ⟨j, hj, rfl⟩ := q0
  obtain ⟨N, -, hN, rfl⟩ := in_nI (by decide) q (by decide)
  have hR := H.2.1
  exact wbB (W_hasTongue (by omega)) (ws offT.rf) (fun _ => W_kind58 (by omega) (by omega) hh 4 0 FU s _ _ H (by omega) (by decide))
theorem W_swap55 {N a : Nat} {k37 : Int32 → Int32 → Int32 → sg → Option (Int32 × sg)} {s0 : sg} (hN : N < 1000) (hh : h ≤ 999) (ha : a < R) (H0 : HS s0 11 R h) (hk : ∀ y3 y4 s, offT s0 s → wp (k37 y3 y4 (nI a + nI 1) s) (fun v => offT s0 v.2)) : ∀ (n r fu : Nat) (s : sg) (x3 x4 : Int32), offT s0 s → r + n = R → n < fu → wp (C_swap_55 k37 (nI N) x2 (nI a) fu x3 x4 (nI r) s) (fun v => offT s0 v.2)
  | n, r, 0, s, x3, x4, o, hr, hf => absurd hf (by omega)
  | n, r, fu + 1, s, x3, x4, o, hr, hf => by
    have H : HS s 11 R h := H0.t o (by decide)
    have hR := H.2.1
    rw [C_swap_55, H.1]
    refine wi (fun c => ?_) (fun c => hk _ _ _ o)
    rw [nI_ltI (by omega) (by omega)] at c
    obtain ⟨n, rfl⟩ : ∃ m, n = m + 1 := ⟨n - 1, by omega⟩
    refine wb (W_copyOfNow H) (fun s1 h1 => wb (W_exT (by omega) (by omega) h1.1) (fun s2 h2 => wb (W_passHours hN h2.1 (by omega)) (fun v hv => ?_)))
    have o2 : offT s0 v.2 := (o.tr h1.2).tr ((h2.2.t (by decide) (by decide)).tr (hv.2.t (by decide) (by decide)))
    have k : ∀ y4 y5 : Int32, wp (C_swap_55 k37 (nI N) x2 (nI a) fu y4 y5 (nI r + nI 1) v.2) (fun v => offT s0 v.2) := fun y4 y5 => by
      rw [nI_add]
      exact W_swap55 hN hh ha H0 hk n (r + 1) fu v.2 y4 y5 o2 (by omega) (by omega)
    exact wi (fun _ => k _ _) (fun _ => k _ _)
theorem W_swap37 {N : Nat} {s0 : sg} (hN : N < 1000) (hh : h ≤ 999) (H0 : HS s0 11 R h) : ∀ (n r fu : Nat) (s : sg) (x3 x4 : Int32), offT s0 s → r + n = R → n < fu → wp (C_swap_37 (nI N) x2 fu x3 x4 (nI r) s) (fun v => offT s0 v.2)
  | n, r, 0, s, x3, x4, o, hr, hf => absurd hf (by omega)
  | n, r, fu + 1, s, x3, x4, o, hr, hf => by
    have H : HS s 11 R h := H0.t o (by decide)
    have hR := H.2.1
    rw [C_swap_37, H.1]
    refine wi (fun c => ?_) (fun c => wb W_chosen (fun _ _ => ws o))
    rw [nI_ltI (by omega) (by omega)] at c
    obtain ⟨n, rfl⟩ : ∃ m, n = m + 1 := ⟨n - 1, by omega⟩
    rw [nI_add]
    refine W_swap55 hN hh c H0 (fun y3 y4 s' o' => ?_) (R - (r + 1)) (r + 1) FU s x3 x4 o (by omega) (by show R - (r + 1) < 100000; omega)
    rw [nI_add]
    exact W_swap37 hN hh H0 n (r + 1) fu s' y3 y4 o' (by omega) (by omega)
theorem W_C_swap (H : HS s 11 R h) (hh : h ≤ 999) : wp (C_swap x1 x2 s) (fun v => offT s v.2) := by
  unfold C_swap
  refine wbB W_within (ws offT.rf) (fun q => wbB W_within (ws offT.rf) (fun _ => ?_))
  obtain ⟨N, -, hN, rfl⟩ := in_nI (by decide) q (by decide)
  refine wb (W_copyOfNow H) (fun s1 h1 => wb (W_passHours (by omega) h1.1 (by omega)) (fun v hv => ?_))
  have o : offT s v.2 := h1.2.tr (hv.2.t (by decide) (by decide))
  exact W_swap37 (by omega) hh H R 0 FU v.2 _ _ o (by omega) (by have := H.2.1; show R < 100000; omega)
theorem W_seal37 {N : Nat} {s0 : sg} (hN : N < 1000) (hh : h ≤ 999) (H0 : HS s0 11 R h) : ∀ (n r fu : Nat) (s : sg) (x3 x4 : Int32), offT s0 s → r + n = R → n < fu → wp (C_seal_37 (nI N) x2 fu x3 x4 (nI r) s) (fun v => offT s0 v.2)
  | n, r, 0, s, x3, x4, o, hr, hf => absurd hf (by omega)
  | n, r, fu + 1, s, x3, x4, o, hr, hf => by
    have H : HS s 11 R h := H0.t o (by decide)
    have hR := H.2.1
    rw [C_seal_37, H.1]
    refine wi (fun c => ?_) (fun c => wb W_chosen (fun _ _ => ws o))
    rw [nI_m1 (by omega) (by omega)] at c
    obtain ⟨n, rfl⟩ : ∃ m, n = m + 1 := ⟨n - 1, by omega⟩
    refine wb (W_copyOfNow H) (fun s1 h1 => wm rfl (by omega) (by decide) (wsb (wb (W_passHours hN (h1.1.up6) (by omega)) (fun v hv => ?_))))
    have o2 : offT s0 v.2 := ((o.tr h1.2).tr (offT.up (by decide))).tr (hv.2.t (by decide) (by decide))
    have k : ∀ y4 y5 : Int32, wp (C_seal_37 (nI N) x2 fu y4 y5 (nI r + nI 1) v.2) (fun v => offT s0 v.2) := fun y4 y5 => by
      rw [nI_add]
      exact W_seal37 hN hh H0 n (r + 1) fu v.2 y4 y5 o2 (by omega) (by omega)
    exact wi (fun _ => k _ _) (fun _ => k _ _)
theorem W_C_seal (H : HS s 11 R h) (hh : h ≤ 999) : wp (C_seal x1 x2 s) (fun v => offT s v.2) := by
  unfold C_seal
  refine wbB W_within (ws offT.rf) (fun q => wbB W_within (ws offT.rf) (fun _ => ?_))
  obtain ⟨N, -, hN, rfl⟩ := in_nI (by decide) q (by decide)
  refine wb (W_copyOfNow H) (fun s1 h1 => wb (W_passHours (by omega) h1.1 (by omega)) (fun v hv => ?_))
  have o : offT s v.2 := h1.2.tr (hv.2.t (by decide) (by decide))
  exact W_seal37 (by omega) hh H R 0 FU v.2 _ _ o (by omega) (by have := H.2.1; show R < 100000; omega)
theorem W_spare43 {N : Nat} {s0 : sg} (hN : N < 1000) (hh : h ≤ 999) (H0 : HS s0 11 R h) : ∀ (n r fu : Nat) (s : sg) (x4 x5 : Int32), offT s0 s → r + n = R → n < fu → wp (C_spare_43 (nI N) x2 x3 fu x4 x5 (nI r) s) (fun v => offT s0 v.2)
  | n, r, 0, s, x4, x5, o, hr, hf => absurd hf (by omega)
  | n, r, fu + 1, s, x4, x5, o, hr, hf => by
    have H : HS s 11 R h := H0.t o (by decide)
    have hR := H.2.1
    rw [C_spare_43, H.1]
    refine wi (fun c => ?_) (fun c => wb W_chosen (fun _ _ => ws o))
    rw [nI_ltI (by omega) (by omega)] at c
    obtain ⟨n, rfl⟩ : ∃ m, n = m + 1 := ⟨n - 1, by omega⟩
    have k : ∀ (y4 y5 : Int32) (s' : sg), offT s0 s' → wp (C_spare_43 (nI N) x2 x3 fu y4 y5 (nI r + nI 1) s') (fun v => offT s0 v.2) := fun y4 y5 s' o' => by
      rw [nI_add]
      exact W_spare43 hN hh H0 n (r + 1) fu s' y4 y5 o' (by omega) (by omega)
    refine wbB (W_hasTongue (by omega)) (k _ _ _ o) (fun _ => ?_)
    refine wb (W_copyOfNow H) (fun s1 h1 => wb (W_takeTongue (by omega) h1.1) (fun s2 h2 => wb (W_burntAllWarm hN h2.1 (by omega)) (fun v hv => ?_)))
    have o2 : offT s0 v.2 := (o.tr h1.2).tr ((h2.2.t (by decide) (by decide)).tr (hv.t (by decide) (by decide)))
    exact wi (fun _ => k _ _ _ o2) (fun _ => wi (fun _ => k _ _ _ o2) (fun _ => k _ _ _ o2))
theorem W_C_spare (H : HS s 11 R h) (hh : h ≤ 999) : wp (C_spare x1 x2 x3 s) (fun v => offT s v.2) := by
  unfold C_spare
  refine wbB W_within (ws offT.rf) (fun q => wbB W_within (ws offT.rf) (fun _ => wbB W_within (ws offT.rf) (fun _ => ?_)))
  obtain ⟨N, -, hN, rfl⟩ := in_nI (by decide) q (by decide)
  exact W_spare43 (by omega) hh H R 0 FU s _ _ offT.rf (by omega) (by have := H.2.1; show R < 100000; omega)
theorem W_drift46 {N : Nat} (hN : N < 1000) : ∀ (n r fu : Nat) (s : sg) (h : Nat) (x5 : Int32), HS s 53 R h → r + n = N → n < fu → wp (C_drift_46 (nI N) x3 fu x5 (nI r) s) (fun v => offT s v.2)
  | n, r, 0, s, h, x5, H, hr, hf => absurd hf (by omega)
  | n, r, fu + 1, s, h, x5, H, hr, hf => by
    rw [C_drift_46]
    refine wi (fun c => ?_) (fun c => wi (fun _ => ws offT.rf) (fun _ => wb W_warmthOfAll (fun _ _ => ws offT.rf)))
    rw [nI_ltI (by omega) (by omega)] at c
    obtain ⟨n, rfl⟩ : ∃ m, n = m + 1 := ⟨n - 1, by omega⟩
    refine wb (W_passHourBy H) (fun s1 h1 => ?_)
    rw [nI_add r 1]
    exact wc (W_drift46 hN n (r + 1) fu s1 (h + 1) _ h1.1 (by omega) (by omega)) (fun v hv => (h1.2.t (by decide) (by decide)).tr hv)
theorem W_C_drift (H : HS s 11 R h) : wp (C_drift x1 x2 x3 s) (fun v => offT s v.2) := by
  unfold C_drift
  refine wbB W_within (ws offT.rf) (fun q => wbB W_within (ws offT.rf) (fun _ => wi (fun _ => ws offT.rf) (fun _ => ?_)))
  obtain ⟨N, -, hN, rfl⟩ := in_nI (by decide) q (by decide)
  exact wb (W_copyOfNow H) (fun s1 h1 => wc (W_drift46 (by omega) N 0 FU s1 h x1 h1.1 (by omega) (by show N < 100000; omega)) (fun v hv => h1.2.tr hv))
end QUEST
end Q42
section Q43
/-! what is felt, the fuse, sheets -/
def FI (s : sg) : Prop := (∃ n : Nat, n ≤ 6 ∧ s 23 3 = nI n) ∧ ∀ i : Nat, i < 6 → (∃ w : Nat, w < 6 ∧ s 25 i = nI w) ∧ ∃ a : Nat, a ≤ 20 ∧ s 24 i = nI a
theorem FI.t {s s' : sg} (H : FI s) (o : offT s s') : FI s' := by
  unfold FI
  rw [o 23 (by decide), o 24 (by decide), o 25 (by decide)]; exact H
section FELT
variable {s : sg} {R h b : Nat} {x x1 x2 x3 x4 x5 : Int32}
theorem W_last4 {m : Nat} (hm : m ≤ 6) (em : s 23 3 = nI m) (hF : ∀ i : Nat, i < 6 → ∃ a : Nat, a ≤ 20 ∧ s 24 i = nI a) : ∀ (n r fu y : Nat), y ≤ 20 → r + n = m → n < fu → wp (F_lastHour_4 s fu (nI y) (nI r)) (fun v => ∃ a : Nat, a ≤ 20 ∧ v = nI a)
  | n, r, 0, y, hy, hr, hf => absurd hf (by omega)
  | n, r, fu + 1, y, hy, hr, hf => by
    rw [F_lastHour_4, em]
    refine wi (fun c => ?_) (fun c => ws ⟨y, hy, rfl⟩)
    rw [nI_ltI (by omega) (by omega)] at c
    obtain ⟨n, rfl⟩ : ∃ m, n = m + 1 := ⟨n - 1, by omega⟩
    refine wm rfl (by omega) (by decide) ?_
    obtain ⟨a, ha, e⟩ := hF r (by omega)
    rw [e, nI_add]
    by_cases q : nI y < nI a
    · rw [if_pos q]; exact W_last4 hm em hF n (r + 1) fu a ha (by omega) (by omega)
    · rw [if_neg q]; exact W_last4 hm em hF n (r + 1) fu y hy (by omega) (by omega)
theorem W_lastHour (H : FI s) : wp (F_lastHour s) (fun v => ∃ a : Nat, a ≤ 20 ∧ v = nI a) := by
  unfold F_lastHour
  obtain ⟨⟨m, hm, em⟩, hF⟩ := H
  exact W_last4 hm em (fun i hi => (hF i hi).2) m 0 FU 0 (by omega) (by omega) (by show m < 100000; omega)
theorem W_hold2 {m : Nat} (hm : m ≤ 6) (em : s 23 3 = nI m) (hF : ∀ i : Nat, i < 6 → ∃ w : Nat, w < 6 ∧ s 25 i = nI w) : ∀ (n r fu : Nat), r + n = m → n < fu → wp (F_holdAt_2 b x1 s fu (nI r)) (yn True)
  | n, r, 0, hr, hf => absurd hf (by omega)
  | n, r, fu + 1, hr, hf => by
    rw [F_holdAt_2, em]
    refine wi (fun c => ?_) (fun c => ws (Or.inr ⟨rfl, trivial⟩))
    rw [nI_ltI (by omega) (by omega)] at c
    obtain ⟨n, rfl⟩ : ∃ m, n = m + 1 := ⟨n - 1, by omega⟩
    have k : wp (F_holdAt_2 b x1 s fu (nI r + nI 1)) (yn True) := by
      rw [nI_add]; exact W_hold2 hm em hF n (r + 1) fu (by omega) (by omega)
    obtain ⟨w, hw, e⟩ := hF r (by omega)
    exact wm rfl (by omega) (by decide) (wi (fun _ => wm rfl (by omega) (by decide) (wm e hw (by decide) (wm rfl (by omega) (by decide) (wi (fun _ => k) (fun _ => ws (Or.inl rfl)))))) (fun _ => k))
theorem W_holdAt (H : FI s) : wp (F_holdAt x1 b s) (yn True) := by
  unfold F_holdAt
  obtain ⟨⟨m, hm, em⟩, hF⟩ := H
  exact W_hold2 hm em (fun i hi => (hF i hi).1) m 0 FU (by omega) (by show m < 100000; omega)
theorem W_holdIn7 {N : Nat} (hN : N ≤ 20) (h1 : 53 ≤ b) (h2 : b + 7 ≤ 132) : ∀ (n r fu : Nat) (s : sg) (h : Nat), FI s → HS s b R h → h + n < 2 ^ 29 → r + n = N + 1 → n < fu → wp (F_holdIn_7 b (nI N) fu (nI r) s) (fun v => offT s v.2)
  | n, r, 0, s, h, F, H, hh, hr, hf => absurd hf (by omega)
  | n, r, fu + 1, s, h, F, H, hh, hr, hf => by
    rw [F_holdIn_7]
    refine wi (fun c => ws offT.rf) (fun c => wbB (W_holdAt F) (ws offT.rf) (fun _ => ?_))
    rw [nI_ltI (by omega) (by omega)] at c
    obtain ⟨n, rfl⟩ : ∃ m, n = m + 1 := ⟨n - 1, by omega⟩
    refine wb (W_passHour H (by omega)) (fun s1 g1 => ?_)
    have o := g1.2.t h1 h2
    rw [nI_add]
    exact wc (W_holdIn7 hN h1 h2 n (r + 1) fu s1 (h + 1) (F.t o) g1.1 (by omega) (by omega) (by omega)) (fun v hv => o.tr hv)
theorem W_holdIn (F : FI s) (H : HS s b R h) (h1 : 53 ≤ b) (h2 : b + 7 ≤ 132) (hh : h < 2 ^ 28) : wp (F_holdIn b s) (fun v => offT s v.2) := by
  unfold F_holdIn
  refine wb (W_lastHour F) (fun v hv => ?_)
  obtain ⟨N, hN, rfl⟩ := hv
  exact W_holdIn7 hN h1 h2 (N + 1) 0 FU s h F H (by omega) (by omega) (by show N + 1 < 100000; omega)
theorem W_kinds31 {j : Nat} (hj : j < 6) (hh : h ≤ 999) : ∀ (n r fu : Nat) (s : sg) (x2 : Int32), FI s → HS s 11 R h → r + n = 4 → n < fu → wp (C_kinds_31 (nI j) fu x2 (nI r) s) (fun v => offT s v.2)
  | n, r, 0, s, x2, F, H, hr, hf => absurd hf (by omega)
  | n, r, fu + 1, s, x2, F, H, hr, hf => by
    rw [C_kinds_31]
    refine wi (fun c => ws offT.rf) (fun c => ?_)
    rw [nI_ltI (by decide) (by omega)] at c
    obtain ⟨n, rfl⟩ : ∃ m, n = m + 1 := ⟨n - 1, by omega⟩
    refine wb (W_copyOfNow H) (fun s1 h1 => wm rfl hj (by decide) (wsb (wb (W_holdIn (F.t (h1.2.tr (offT.up (by decide)))) (h1.1.up4 (Or.inr ⟨r, by omega, rfl⟩)) (by decide) (by decide) (by omega)) (fun v hv => ?_))))
    have o : offT s v.2 := (h1.2.tr (offT.up (by decide))).tr hv
    have k : ∀ y : Int32, wp (C_kinds_31 (nI j) fu y (nI r + nI 1) v.2) (fun v => offT s v.2) := fun y => by
      rw [nI_add]
      exact wc (W_kinds31 hj hh n (r + 1) fu v.2 y (F.t o) (H.t o (by decide)) (by omega) (by omega)) (fun w hw => o.tr hw)
    exact wi (fun _ => k _) (fun _ => k _)
theorem W_C_kinds (F : FI s) (H : HS s 11 R h) (hh : h ≤ 999) : wp (C_kinds x1 s) (fun v => offT s v.2) := by
  unfold C_kinds
  refine wbB (W_hasRoom H) (ws offT.rf) (fun q0 => ?_)
  obtain ⟨j, hj, rfl⟩ := q0
  have hR := H.2.1
  exact wbB (W_hasTongue (by omega)) (ws offT.rf) (fun _ => W_kinds31 (by omega) hh 4 0 FU s _ F H (by omega) (by decide))
theorem W_leaks4 {j : Nat} (hj : j < 5) (hh : h ≤ 999) : ∀ (n r fu : Nat) (s : sg) (x2 : Int32), FI s → HS s 11 R h → r + n = 10 → n < fu → wp (C_leaksAsFelt_4 (nI j) fu x2 (nI r) s) (fun v => offT s v.2)
  | n, r, 0, s, x2, F, H, hr, hf => absurd hf (by omega)
  | n, r, fu + 1, s, x2, F, H, hr, hf => by
    rw [C_leaksAsFelt_4]
    refine wi (fun c => ws offT.rf) (fun c => ?_)
    rw [nI_ltI (by decide) (by omega)] at c
    obtain ⟨n, rfl⟩ : ∃ m, n = m + 1 := ⟨n - 1, by omega⟩
    refine wb (W_copyOfNow H) (fun s1 h1 => wm rfl hj (by decide) (wsb (wb (W_holdIn (F.t (h1.2.tr (offT.up (by decide)))) (h1.1.up6) (by decide) (by decide) (by omega)) (fun v hv => ?_))))
    have o : offT s v.2 := (h1.2.tr (offT.up (by decide))).tr hv
    have k : ∀ y : Int32, wp (C_leaksAsFelt_4 (nI j) fu y (nI r + nI 1) v.2) (fun v => offT s v.2) := fun y => by
      rw [nI_add]
      exact wc (W_leaks4 hj hh n (r + 1) fu v.2 y (F.t o) (H.t o (by decide)) (by omega) (by omega)) (fun w hw => o.tr hw)
    exact wi (fun _ => k _) (fun _ => k _)
theorem W_leaks {j : Nat} (hj : j < 5) (F : FI s) (H : HS s 11 R h) (hh : h ≤ 999) : wp (C_leaksAsFelt (nI j) s) (fun v => offT s v.2) := by
  unfold C_leaksAsFelt
  exact W_leaks4 hj hh 10 0 FU s _ F H (by omega) (by decide)
theorem W_C_lets (F : FI s) (H : HS s 11 R h) (hh : h ≤ 999) : wp (C_lets x1 s) (fun v => offT s v.2) := by
  unfold C_lets
  refine wbB (W_hasWall H) (ws offT.rf) (fun q0 => ?_)
  obtain ⟨j, hj, rfl⟩ := q0
  have hR := H.2.1
  exact wb (W_leaks (by omega) F H hh) (fun v hv => ws hv)
/-- the first m trials are houses -/
def TS (s : sg) (m R h : Nat) : Prop := ∀ i, i < m → HS s (53 + 8 * i) R h
theorem W_lay5 {j : Nat} (hj : j < 5) {s0 : sg} (H0 : HS s0 11 R h) : ∀ (n r fu m : Nat) (s : sg), offT s0 s → TS s m R h → m ≤ r → r + n = 10 → n < fu → wp (C_layOutTrials_5 (nI j) x2 fu (nI m) (nI r) s) (fun v => offT s0 v.2 ∧ ∃ m : Nat, m ≤ 10 ∧ v.1 = nI m ∧ TS v.2 m R h)
  | n, r, 0, m, s, o, T, hm, hr, hf => absurd hf (by omega)
  | n, r, fu + 1, m, s, o, T, hm, hr, hf => by
    have H : HS s 11 R h := H0.t o (by decide)
    rw [C_layOutTrials_5]
    refine wi (fun c => ws ⟨o, m, by omega, rfl, T⟩) (fun c => wi (fun c2 => ?_) (fun _ => ws ⟨o, m, by omega, rfl, T⟩))
    rw [nI_ltI (by decide) (by omega)] at c
    obtain ⟨n, rfl⟩ : ∃ m, n = m + 1 := ⟨n - 1, by omega⟩
    refine wi (fun _ => ?_) (fun _ => ?_)
    · refine wm rfl (by omega) (by decide) (wb (W_copyFrom (b := 53 + 8 * m) (c := 11) (Or.inr (by omega)) H) (fun s1 h1 => wm rfl (by omega) (by decide) (wm rfl hj (by decide) (wsb ?_))))
      rw [nI_add, nI_add]
      refine W_lay5 hj H0 n (r + 1) fu (m + 1) _ ((o.tr (h1.2.t (by omega) (by omega))).tr (offT.up (by omega))) (fun i hi => ?_) (by omega) (by omega) (by omega)
      by_cases e : i = m
      · subst e; exact h1.1.up6
      · refine (T i (by omega)).keep ?_ ?_ ?_
        · rw [up_p (by omega), h1.2 _ (by omega)]
        · rw [up_p (by omega), h1.2 _ (by omega)]
        · rw [up_off (by omega), h1.2 _ (by omega)]
    · rw [nI_add]
      exact W_lay5 hj H0 n (r + 1) fu m s o T (by omega) (by omega) (by omega)
theorem W_most17 {m j a : Nat} {k5 : Int32 → Int32 → Option Int32} (hm : m ≤ 10) (hj : j < 6) (ha : a < m) (hk : ∀ y, wp (k5 y (nI a + nI 1)) (fun _ => True)) : ∀ (n r fu : Nat) (x5 : Int32), r + n = m → n < fu → wp (C_mostAlike_17 k5 (nI m) (nI j) x3 (nI a) s fu x5 (nI r)) (fun _ => True)
  | n, r, 0, x5, hr, hf => absurd hf (by omega)
  | n, r, fu + 1, x5, hr, hf => by
    rw [C_mostAlike_17]
    refine wi (fun c => ?_) (fun c => hk _)
    rw [nI_ltI (by omega) (by omega)] at c
    obtain ⟨n, rfl⟩ : ∃ m, n = m + 1 := ⟨n - 1, by omega⟩
    have k : ∀ y : Int32, wp (C_mostAlike_17 k5 (nI m) (nI j) x3 (nI a) s fu y (nI r + nI 1)) (fun _ => True) := fun y => by
      rw [nI_add]; exact W_most17 hm hj ha hk n (r + 1) fu y (by omega) (by omega)
    exact wm rfl (by omega) (by decide) (wm rfl hj (by decide) (wm rfl (by omega) (by decide) (wm rfl hj (by decide) (wi (fun _ => k _) (fun _ => k _)))))
theorem W_most5 {m j : Nat} (hm : m ≤ 10) (hj : j < 6) : ∀ (n r fu : Nat) (x3 : Int32), r + n = m → n < fu → wp (C_mostAlike_5 (nI m) (nI j) s fu x3 (nI r)) (fun _ => True)
  | n, r, 0, x3, hr, hf => absurd hf (by omega)
  | n, r, fu + 1, x3, hr, hf => by
    rw [C_mostAlike_5]
    refine wi (fun c => ?_) (fun c => ws trivial)
    rw [nI_ltI (by omega) (by omega)] at c
    obtain ⟨n, rfl⟩ : ∃ m, n = m + 1 := ⟨n - 1, by omega⟩
    refine W_most17 hm hj c (fun y => ?_) m 0 FU _ (by omega) (by show m < 100000; omega)
    rw [nI_add]
    exact W_most5 hm hj n (r + 1) fu y (by omega) (by omega)
theorem W_mostAlike {m j : Nat} (hm : m ≤ 10) (hj : j < 6) : wp (C_mostAlike (nI m) (nI j) s) (fun _ => True) := by
  unfold C_mostAlike
  exact W_most5 hm hj m 0 FU _ (by omega) (by show m < 100000; omega)
theorem TS.step {m R h : Nat} {s s1 : sg} {r : Nat} (hT : TS s m R (h + 1) ∨ True) : True := trivial
theorem W_ask104 {m : Nat} {k43 : Int32 → Int32 → Int32 → sg → Option (Int32 × sg)} {s0 : sg} {y6 : Int32} (hm : m ≤ 10) (hh : h < 2 ^ 29) (hk : ∀ y4 y5 s, offT s0 s → TS s m R (h + 1) → wp (k43 y4 y5 (y6 + nI 1) s) (fun v => offT s0 v.2)) : ∀ (n r fu : Nat) (s : sg), offT s0 s → (∀ i, i < r → HS s (53 + 8 * i) R (h + 1)) → (∀ i, r ≤ i → i < m → HS s (53 + 8 * i) R h) → r + n = m → n < fu → wp (C_ask_104 k43 x2 (nI m) x4 x5 y6 fu (nI r) s) (fun v => offT s0 v.2)
  | n, r, 0, s, o, T1, T2, hr, hf => absurd hf (by omega)
  | n, r, fu + 1, s, o, T1, T2, hr, hf => by
    rw [C_ask_104]
    refine wi (fun c => ?_) (fun c => hk _ _ _ o (fun i hi => T1 i ?_))
    · rw [nI_ltI (by omega) (by omega)] at c
      obtain ⟨n, rfl⟩ : ∃ m, n = m + 1 := ⟨n - 1, by omega⟩
      refine wm rfl (by omega) (by decide) (wb (W_passHour (T2 r (Nat.le_refl r) c) (by omega)) (fun s1 h1 => ?_))
      rw [nI_add]
      refine W_ask104 hm hh hk n (r + 1) fu s1 (o.tr (h1.2.t (by omega) (by omega))) (fun i hi => ?_) (fun i hi hi2 => ?_) (by omega) (by omega)
      · by_cases e : i = r
        · subst e; exact h1.1
        · refine (T1 i (by omega)).keep ?_ ?_ ?_
          · rw [h1.2 _ (by omega)]
          · rw [h1.2 _ (by omega)]
          · rw [h1.2 _ (by omega)]
      · refine (T2 i (by omega) hi2).keep ?_ ?_ ?_
        · rw [h1.2 _ (by omega)]
        · rw [h1.2 _ (by omega)]
        · rw [h1.2 _ (by omega)]
    · rw [nI_ltI (by omega) (by omega)] at c; omega
theorem W_ask53 {m : Nat} {k43 : Int32 → Int32 → Int32 → sg → Option (Int32 × sg)} {s0 : sg} {y6 : Int32} {h2 : Nat} (H0 : HS s0 11 R h2) (hm : m ≤ 10) (hh : h < 2 ^ 29) (hk : ∀ y4 y5 s, offT s0 s → TS s m R (h + 1) → wp (k43 y4 y5 (y6 + nI 1) s) (fun v => offT s0 v.2)) : ∀ (n r fu : Nat) (s : sg) (x4 x5 : Int32), offT s0 s → TS s m R h → r + n = R → n < fu → wp (C_ask_53 k43 x2 (nI m) y6 fu x4 x5 (nI r) s) (fun v => offT s0 v.2)
  | n, r, 0, s, x4, x5, o, T, hr, hf => absurd hf (by omega)
  | n, r, fu + 1, s, x4, x5, o, T, hr, hf => by
    have H : HS s 11 R h2 := H0.t o (by decide)
    have hR := H.2.1
    rw [C_ask_53, H.1]
    refine wi (fun c => ?_) (fun c => W_ask104 hm hh hk m 0 FU s o (fun i hi => absurd hi (by omega)) (fun i _ hi => T i hi) (by omega) (by show m < 100000; omega))
    rw [nI_ltI (by omega) (by omega)] at c
    obtain ⟨n, rfl⟩ : ∃ m, n = m + 1 := ⟨n - 1, by omega⟩
    have k : ∀ y4 y5 : Int32, wp (C_ask_53 k43 x2 (nI m) y6 fu y4 y5 (nI r + nI 1) s) (fun v => offT s0 v.2) := fun y4 y5 => by
      rw [nI_add]
      exact W_ask53 H0 hm hh hk n (r + 1) fu s y4 y5 o T (by omega) (by omega)
    exact wb (W_mostAlike hm (by omega)) (fun v _ => wi (fun _ => k _ _) (fun _ => k _ _))
theorem W_ask43 {m : Nat} {s0 : sg} {h2 : Nat} (H0 : HS s0 11 R h2) (hm : m ≤ 10) : ∀ (n r fu : Nat) (s : sg) (h : Nat) (x4 x5 : Int32), h + n < 2 ^ 29 → offT s0 s → TS s m R h → r + n = 21 → n < fu → wp (C_ask_43 x2 (nI m) fu x4 x5 (nI r) s) (fun v => offT s0 v.2)
  | n, r, 0, s, h, x4, x5, hh, o, T, hr, hf => absurd hf (by omega)
  | n, r, fu + 1, s, h, x4, x5, hh, o, T, hr, hf => by
    rw [C_ask_43]
    refine wi (fun c => wb W_chosen (fun _ _ => ws o)) (fun c => ?_)
    rw [nI_ltI (by decide) (by omega)] at c
    obtain ⟨n, rfl⟩ : ∃ m, n = m + 1 := ⟨n - 1, by omega⟩
    refine W_ask53 H0 hm (by omega) (fun y4 y5 s' o' T' => ?_) R 0 FU s x4 x5 o T (by omega) (by have := H0.2.1; show R < 100000; omega)
    rw [nI_add]
    exact W_ask43 H0 hm n (r + 1) fu s' (h + 1) y4 y5 (by omega) o' T' (by omega) (by omega)
theorem W_C_ask (F : FI s) (H : HS s 11 R h) (hh : h ≤ 999) : wp (C_ask x1 x2 s) (fun v => offT s v.2) := by
  unfold C_ask
  refine wbB (W_hasWall H) (ws offT.rf) (fun q0 => wbB W_within (ws offT.rf) (fun _ => ?_))
  obtain ⟨j, hj, rfl⟩ := q0
  have hR := H.2.1
  refine wb (W_leaks (by omega) F H hh) (fun v3 h3 => ?_)
  refine wb (P := fun v => offT s v.2 ∧ ∃ m : Nat, m ≤ 10 ∧ v.1 = nI m ∧ TS v.2 m R h) ?_ (fun v4 h4 => ?_)
  · unfold C_layOutTrials
    exact W_lay5 (by omega) H 10 0 FU 0 v3.2 h3 (fun i hi => absurd hi (by omega)) (by omega) (by omega) (by decide)
  · obtain ⟨o, m, hm, e, T⟩ := h4
    rw [e]
    exact W_ask43 H hm 21 0 FU v4.2 h _ _ (by omega) o T (by omega) (by decide)
end FELT
end Q43
section Q44
/-! the fuse -/
def offD (d : Nat) (s s' : sg) : Prop := ∀ p, ¬ (53 + 8 * (d + 1) ≤ p ∧ p ≤ 132) → s' p = s p
theorem offD.rf {d : Nat} {s : sg} : offD d s s := fun _ _ => rfl
theorem offD.tr {d : Nat} {s s' s'' : sg} (h1 : offD d s s') (h2 : offD d s' s'') : offD d s s'' := fun p hp => (h2 p hp).trans (h1 p hp)
theorem offD.le {d e : Nat} {s s' : sg} (h : offD e s s') (hd : d ≤ e) : offD d s s' := fun p hp => h p (by omega)
theorem offD.t {d : Nat} {s s' : sg} (h : offD d s s') : offT s s' := fun p hp => h p (by omega)
theorem offH.d {s s' : sg} {d : Nat} (o : offH (53 + 8 * (d + 1)) s s') (hd : d < 9) : offD d s s' := fun p hp => o p (by omega)
theorem HS.d {s s' : sg} {d R h : Nat} (H : HS s (53 + 8 * d) R h) (o : offD d s s') : HS s' (53 + 8 * d) R h :=
  H.keep (by rw [o _ (by omega)]) (by rw [o _ (by omega)]) (o _ (by omega))
section FUSE
variable {s : sg} {R : Nat} {x x1 x2 x3 x4 x5 : Int32}
theorem W_outcome {b h : Nat} (H : HS s b R h) : wp (C_outcome b x2 x3 s) (fun _ => True) := by
  unfold C_outcome
  refine wbB (W_hasRoom H) (ws trivial) (fun q => ?_)
  obtain ⟨j, hj, rfl⟩ := q
  have hR := H.2.1
  exact wm rfl (by omega) (by decide) (wi (fun _ => ws trivial) (fun _ => ws trivial))
theorem W_w39 {n d h : Nat} {kr : Int32 → Int32 → Int32 → Int32 → Int32 → sg → Option (Int64 × sg)} {s0 : sg} (hd : d < n) (hn : n ≤ 8) (hh : h < 2 ^ 29) (H0 : HS s0 (53 + 8 * d) R h)
    (hk : ∀ s, HS s (53 + 8 * (d + 1)) R (h + 1) → wp (kr (nI d + nI 1) (nI n) x3 x4 x5 s) (fun v => offD (d + 1) s v.2)) : ∀ (m q fu : Nat) (s : sg) (x7 : Int64), offD d s0 s → q + m = 2 → m < fu → wp (C_weighed_39 kr (nI d) (nI n) x3 x4 x5 (53 + 8 * d) fu x7 (nI q) s) (fun v => offD d s0 v.2)
  | m, q, 0, s, x7, o, hr, hf => absurd hf (by omega)
  | m, q, fu + 1, s, x7, o, hr, hf => by
    have H : HS s (53 + 8 * d) R h := H0.d o
    rw [C_weighed_39]
    refine wi (fun c => ws o) (fun c => ?_)
    rw [nI_ltI (by decide) (by omega)] at c
    obtain ⟨m, rfl⟩ : ∃ k, m = k + 1 := ⟨m - 1, by omega⟩
    have nx : ∀ (y7 : Int64) (s' : sg), offD d s0 s' → wp (C_weighed_39 kr (nI d) (nI n) x3 x4 x5 (53 + 8 * d) fu y7 (nI q + nI 1) s') (fun v => offD d s0 v.2) := fun y7 s' o' => by
      rw [nI_add]; exact W_w39 hd hn hh H0 hk m (q + 1) fu s' y7 o' (by omega) (by omega)
    have w59 : ∀ y0 : Int32, wp (C_weighed_59 kr (C_weighed_39 kr (nI d) (nI n) x3 x4 x5 (53 + 8 * d) fu) (nI d) (nI n) x3 x4 x5 (53 + 8 * d) x7 (nI q) y0 s) (fun v => offD d s0 v.2) := fun y0 => by
      unfold C_weighed_59
      refine wi (fun _ => wm (nI_add d 1) (by omega) (by decide) (wb (W_copyFrom (b := 53 + 8 * (d + 1)) (c := 53 + 8 * d) (Or.inr (by omega)) H) (fun s1 h1 => wb (W_skyNow h1.1 (by omega)) (fun v2 _ => ?_)))) (fun _ => nx _ _ o)
      have w101 : ∀ z0 : Int32, wp (C_weighed_101 kr (C_weighed_39 kr (nI d) (nI n) x3 x4 x5 (53 + 8 * d) fu) (nI d) (nI n) x3 x4 x5 (53 + 8 * d) x7 (nI q) y0 z0 v2 (53 + 8 * (d + 1)) s1) (fun v => offD d s0 v.2) := fun z0 => by
        unfold C_weighed_101
        refine wb (W_passHourBy h1.1) (fun s2 h2 => wb (hk s2 h2.1) (fun v hv => nx _ _ ?_))
        exact ((o.tr (h1.2.d (by omega))).tr (h2.2.d (by omega))).tr (hv.le (by omega))
      exact wi (fun _ => w101 _) (fun _ => w101 _)
    exact wi (fun _ => w59 _) (fun _ => w59 _)
theorem W_weighed {n : Nat} (hn : n ≤ 8) : ∀ (dp d h : Nat) (s : sg), d ≤ n → n - d < dp → h + (n - d) < 2 ^ 29 → HS s (53 + 8 * d) R h → wp (C_weighed dp (nI d) (nI n) x3 x4 x5 s) (fun v => offD d s v.2)
  | 0, d, h, s, hd, hp, hh, H => absurd hp (by omega)
  | dp + 1, d, h, s, hd, hp, hh, H => by
    rw [C_weighed]
    have w21 : wp (C_weighed_21 (C_weighed dp) x4 x5 (53 + 8 * d) s) (fun v => offD d s v.2) := by
      unfold C_weighed_21
      exact wb (W_outcome H) (fun _ _ => ws offD.rf)
    refine wm rfl (by omega) (by decide) (wi (fun c => wi (fun _ => ?_) (fun _ => w21)) (fun _ => w21))
    rw [nI_ltI (by omega) (by omega)] at c
    refine W_w39 c hn (by omega) H (fun s' H' => ?_) 2 0 FU s _ offD.rf (by omega) (by decide)
    rw [nI_add]
    exact W_weighed hn dp (d + 1) (h + 1) s' (by omega) (by omega) (by omega) H'
theorem W_ten4 {N : Nat} (hN : N < 1000) : ∀ (n r fu : Nat) (x1 : Int64), r + n = N → n < fu → wp (C_tenTo_4 (nI N) s fu x1 (nI r)) (fun _ => True)
  | n, r, 0, x1, hr, hf => absurd hf (by omega)
  | n, r, fu + 1, x1, hr, hf => by
    rw [C_tenTo_4]
    refine wi (fun c => ?_) (fun c => ws trivial)
    rw [nI_ltI (by omega) (by omega)] at c
    obtain ⟨n, rfl⟩ : ∃ m, n = m + 1 := ⟨n - 1, by omega⟩
    rw [nI_add]
    exact W_ten4 hN n (r + 1) fu _ (by omega) (by omega)
theorem W_tenTo {N : Nat} (hN : N < 1000) : wp (C_tenTo (nI N) s) (fun _ => True) := by
  unfold C_tenTo
  exact W_ten4 hN N 0 FU _ (by omega) (by show N < 100000; omega)
theorem W_cd33 {u : Int64} : wp (C_commonDivisor_33 u s) (fun v => ¬ v = 0) := by
  unfold C_commonDivisor_33
  refine ws (fun q => ?_)
  by_cases c : (1 : Int64) < u
  · rw [if_pos c] at q
    rw [q] at c
    exact absurd c (by decide)
  · rw [if_neg c] at q
    exact absurd q (by decide)
theorem W_cd3 : ∀ (n r fu : Nat) (u w : Int64), r + n = 200 → n < fu → wp (C_commonDivisor_3 s fu u w (nI r)) (fun v => ¬ v = 0)
  | n, r, 0, u, w, hr, hf => absurd hf (by omega)
  | n, r, fu + 1, u, w, hr, hf => by
    rw [C_commonDivisor_3]
    refine wi (fun c => wi (fun _ => W_cd33) (fun c2 => wi (fun c3 => absurd c3 c2) (fun _ => ?_))) (fun c => W_cd33)
    rw [nI_ltI (by omega) (by decide)] at c
    obtain ⟨n, rfl⟩ : ∃ m, n = m + 1 := ⟨n - 1, by omega⟩
    rw [nI_add]
    exact W_cd3 n (r + 1) fu _ _ (by omega) (by omega)
theorem W_ofFraction {u w : Int64} : wp (C_ofFraction u w x4 s) (fun _ => True) := by
  unfold C_ofFraction
  refine wb (P := fun v => ¬ v = 0) ?_ (fun v hv => wi (fun _ => wi (fun c => absurd c hv) (fun _ => ws trivial)) (fun _ => wi (fun c => absurd c hv) (fun _ => ws trivial)))
  unfold C_commonDivisor
  exact W_cd3 200 0 FU _ _ (by omega) (by decide)
theorem W_fuse : wp (C_fuseIsAsTold x1 x2 x3 s) (yn (∃ j, j ≤ 8 ∧ x2 = nI j)) := by
  unfold C_fuseIsAsTold
  refine wbB W_within (ws (Or.inl rfl)) (fun _ => wbB W_within (ws (Or.inl rfl)) (fun q => wbB W_within (ws (Or.inl rfl)) (fun _ => ws (Or.inr ⟨rfl, ?_⟩))))
  obtain ⟨N, -, hN, e⟩ := in_nI (by decide) q (by decide)
  exact ⟨N, hN, e⟩
theorem W_C_luck {h : Nat} (H : HS s 11 R h) (hh : h ≤ 999) : wp (C_luck x1 x2 x3 x4 x5 s) (fun v => offT s v.2) := by
  unfold C_luck
  refine wbB W_fuse (ws offT.rf) (fun q => wbB (W_hasRoom H) (ws offT.rf) (fun _ => wbB W_within (ws offT.rf) (fun _ => ?_)))
  obtain ⟨n, hn, rfl⟩ := q
  refine wb (W_copyFrom (b := 53) (c := 11) (Or.inr (by decide)) H) (fun s1 h1 => wb (W_weighed hn 10 0 h s1 (by omega) (by omega) (by omega) h1.1) (fun v hv => wb (W_tenTo (by omega)) (fun v6 _ => wb W_ofFraction (fun v7 _ => ws ?_))))
  exact (h1.2.t (by decide) (by decide)).tr hv.t
theorem W_C_mean {h : Nat} (H : HS s 11 R h) (hh : h ≤ 999) : wp (C_mean x1 x2 x3 s) (fun v => offT s v.2) := by
  unfold C_mean
  refine wbB W_fuse (ws offT.rf) (fun q => ?_)
  obtain ⟨n, hn, rfl⟩ := q
  refine wb (W_copyFrom (b := 53) (c := 11) (Or.inr (by decide)) H) (fun s1 h1 => wb (W_weighed hn 10 0 h s1 (by omega) (by omega) (by omega) h1.1) (fun v hv => wb (W_tenTo (by omega)) (fun v6 _ => wb W_ofFraction (fun v7 _ => ws ?_))))
  exact (h1.2.t (by decide) (by decide)).tr hv.t
end FUSE
end Q44
section Q45
/-! the class's calls: they end and keep what is kept -/
def IC (s : sg) : Prop := (∃ R h : Nat, h ≤ 999 ∧ HS s 11 R h) ∧ (∀ k : Nat, k < 2 → ∃ R h : Nat, h ≤ 999 ∧ HS s (37 + 8 * k) R h) ∧ FI s ∧ (∃ L : Nat, L ≤ 160 ∧ s 27 1 = nI L) ∧ (∀ k : Nat, k < 4 → ∃ n : Nat, n ≤ 40 ∧ s (133 + 2 * k) 1 = nI n)
/-- the tape's length and the heads of the sheets are as they were -/
def SA (s s' : sg) : Prop := s' 27 1 = s 27 1 ∧ ∀ k : Nat, k < 4 → s' (133 + 2 * k) = s (133 + 2 * k)
theorem SA.rf {s : sg} : SA s s := ⟨rfl, fun _ _ => rfl⟩
theorem IC.t {s s' : sg} (H : IC s) (o : offT s s') : IC s' ∧ SA s s' := by
  obtain ⟨⟨R, h, hh, h1⟩, h2, h3, h4, h5⟩ := H
  refine ⟨⟨⟨R, h, hh, h1.t o (by decide)⟩, fun k hk => ?_, h3.t o, ?_, fun k hk => ?_⟩, ?_, fun k hk => o _ (by omega)⟩
  · obtain ⟨R, h, hh, h2⟩ := h2 k hk
    exact ⟨R, h, hh, h2.t o (by omega)⟩
  · rw [o 27 (by decide)]; exact h4
  · rw [o _ (by omega)]; exact h5 k hk
  · rw [o 27 (by decide)]
theorem IC.n {s s' : sg} (H : IC s) (o : offH 11 s s') (N : ∃ R h : Nat, h ≤ 999 ∧ HS s' 11 R h) : IC s' ∧ SA s s' := by
  obtain ⟨-, h2, h3, h4, h5⟩ := H
  refine ⟨⟨N, fun k hk => ?_, ?_, ?_, fun k hk => ?_⟩, ?_, fun k hk => o _ (by omega)⟩
  · obtain ⟨R, h, hh, h2⟩ := h2 k hk
    exact ⟨R, h, hh, h2.keep (by rw [o _ (by omega)]) (by rw [o _ (by omega)]) (o _ (by omega))⟩
  · unfold FI
    rw [o 23 (by decide), o 24 (by decide), o 25 (by decide)]; exact h3
  · rw [o 27 (by decide)]; exact h4
  · rw [o _ (by omega)]; exact h5 k hk
  · rw [o 27 (by decide)]
section CALLS
variable {s : sg} {x x1 x2 x3 x4 x5 : Int32}
theorem W_C_rule (I : IC s) : wp (C_rule x1 s) (fun _ => True) := by
  obtain ⟨⟨R, h, hh, H⟩, -⟩ := I
  unfold C_rule
  exact wi (fun _ => ws trivial) (fun _ => wi (fun _ => ws trivial) (fun _ => wi (fun _ => ws trivial) (fun _ => wi (fun _ => ws trivial) (fun _ => wi (fun _ => wb W_warmthOfAll (fun _ _ => ws trivial)) (fun _ => wi (fun _ => ws trivial) (fun _ => wi (fun _ => wb (W_skyNow H (by omega)) (fun _ _ => ws trivial)) (fun _ => ws trivial)))))))
theorem W_C_room (I : IC s) : wp (C_room x1 x2 s) (fun _ => True) := by
  obtain ⟨⟨R, h, hh, H⟩, -⟩ := I
  have hR := H.2.1
  unfold C_room
  refine wbB (W_hasRoom H) (ws trivial) (fun q => wbB W_within (ws trivial) (fun _ => ?_))
  obtain ⟨j, hj, rfl⟩ := q
  have hj6 : j < 6 := by omega
  have t : wp ((H_hasTongue 11 (nI j) s).bind fun v => if v = 0 then some (-4) else (C_ofTongue (nI j) x2 s).bind fun w => some w) (fun _ => True) := by
    refine wbB (W_hasTongue hj6) (ws trivial) (fun ht => ?_)
    refine wb (P := fun _ => True) ?_ (fun _ _ => ws trivial)
    unfold C_ofTongue
    exact wi (fun _ => wm rfl hj6 (by decide) (ws trivial)) (fun _ => wi (fun _ => wm rfl hj6 (by decide) (ws trivial)) (fun _ => wi (fun _ => wb (W_lowOf H hj6 ht) (fun _ _ => ws trivial)) (fun _ => wb (W_highOf H hj6 ht) (fun _ _ => ws trivial))))
  exact wi (fun _ => wm rfl hj6 (by decide) (ws trivial)) (fun _ => wi (fun _ => wm rfl hj6 (by decide) (ws trivial)) (fun _ => wi (fun _ => wm rfl hj6 (by decide) (ws trivial)) (fun _ => wi (fun _ => t) (fun _ => wi (fun _ => t) (fun _ => wi (fun _ => t) (fun _ => wi (fun _ => t) (fun _ => wi (fun _ => wbB W_isOn (ws trivial) (fun _ => ws trivial)) (fun _ => t))))))))
theorem W_C_wall (I : IC s) : wp (C_wall x1 s) (fun _ => True) := by
  obtain ⟨⟨R, h, hh, H⟩, -⟩ := I
  have hR := H.2.1
  unfold C_wall
  refine wbB (W_hasWall H) (ws trivial) (fun q => ?_)
  obtain ⟨j, hj, rfl⟩ := q
  exact wm rfl (by omega) (by decide) (ws trivial)
theorem W_C_outside : wp (C_outside x1 s) (fun _ => True) := by
  unfold C_outside
  refine wbB W_within (ws trivial) (fun q => ?_)
  obtain ⟨j, -, hj, rfl⟩ := in_nI (by decide) q (by decide)
  exact wm rfl (by omega) (by decide) (ws trivial)
theorem W_C_alter (I : IC s) : wp (C_alter x1 x2 x3 s) (fun v => IC v.2 ∧ SA s v.2) := by
  have I0 := I
  obtain ⟨⟨R, h, hh, H⟩, -⟩ := I
  have hR := H.2.1
  unfold C_alter
  refine wbB (W_hasRoom H) (ws ⟨I0, SA.rf⟩) (fun q => wbB W_within (ws ⟨I0, SA.rf⟩) (fun _ => ?_))
  obtain ⟨j, hj, rfl⟩ := q
  have e : ∀ p, p = 12 ∨ p = 13 ∨ p = 14 → wp (C_alter_79 (nI j) x3 p s) (fun v => IC v.2 ∧ SA s v.2) := fun p hp => by
    unfold C_alter_79
    refine wb (W_exchange (by omega) (by decide)) (fun v hv => ws ?_)
    subst hv
    dsimp only
    exact I0.n (offH.up (by omega)) ⟨R, h, hh, H.keep (up_p (by omega)) (up_p (by omega)) (by funext r; exact up_p (by omega))⟩
  have t : ∀ y0 y1 : Int32, wp (C_alter_35 (nI j) x2 x3 y0 y1 x3 s) (fun v => IC v.2 ∧ SA s v.2) := fun y0 y1 => by
    unfold C_alter_35
    exact wbB W_within (ws ⟨I0, SA.rf⟩) (fun _ => wi (fun _ => e 12 (Or.inl rfl)) (fun _ => wi (fun _ => e 13 (Or.inr (Or.inl rfl))) (fun _ => e 14 (Or.inr (Or.inr rfl)))))
  exact wi (fun _ => t _ _) (fun _ => t _ _)
theorem W_C_fit (I : IC s) : wp (C_fit x1 x2 x3 s) (fun v => IC v.2 ∧ SA s v.2) := by
  have I0 := I
  obtain ⟨⟨R, h, hh, H⟩, -⟩ := I
  have hR := H.2.1
  unfold C_fit
  refine wbB (W_hasRoom H) (ws ⟨I0, SA.rf⟩) (fun q => wbB W_within (ws ⟨I0, SA.rf⟩) (fun q2 => wbB W_within (ws ⟨I0, SA.rf⟩) (fun _ => ?_)))
  obtain ⟨j, hj, rfl⟩ := q
  obtain ⟨k, -, hk, rfl⟩ := in_nI (by decide) q2 (by decide)
  have t : ∀ y : Int32, wp (C_fit_57 (nI j) (nI k) x3 y s) (fun v => IC v.2 ∧ SA s v.2) := fun y => by
    unfold C_fit_57
    refine wm rfl (by omega) (by decide) (wsb (wm rfl (by omega) (by decide) (wsb (ws ?_))))
    dsimp only
    exact I0.n ((offH.up (by omega)).tr (offH.up (by omega))) ⟨R, h, hh, (H.up4 (b := 11) (Or.inr ⟨k, by omega, rfl⟩)).up5⟩
  exact wbB (W_hasTongue (by omega)) (t _) (fun _ => wm rfl (by omega) (by decide) (t _))
theorem W_C_strip (I : IC s) : wp (C_strip x1 s) (fun v => IC v.2 ∧ SA s v.2) := by
  have I0 := I
  obtain ⟨⟨R, h, hh, H⟩, -⟩ := I
  have hR := H.2.1
  unfold C_strip
  refine wbB (W_hasRoom H) (ws ⟨I0, SA.rf⟩) (fun q => ?_)
  obtain ⟨j, hj, rfl⟩ := q
  exact wbB (W_hasTongue (by omega)) (ws ⟨I0, SA.rf⟩) (fun _ => wm rfl (by omega) (by decide) (wb (W_takeTongue (by omega) H) (fun s1 h1 => ws (I0.n h1.2 ⟨R, h, hh, h1.1⟩))))
theorem W_C_mark (I : IC s) : wp (C_mark x1 x2 s) (fun v => IC v.2 ∧ SA s v.2) := by
  have I0 := I
  obtain ⟨⟨R, h, hh, H⟩, -⟩ := I
  have hR := H.2.1
  unfold C_mark
  refine wb (W_markRefused H) (fun v hv => wi (fun c => ?_) (fun _ => ws ⟨I0, SA.rf⟩))
  obtain ⟨j, hj, rfl⟩ := hv c
  refine wb (W_exchange (by omega) (by decide)) (fun v hv => ws ?_)
  subst hv
  dsimp only
  exact I0.n (offH.up (by omega)) ⟨R, h, hh, H.up5 (b := 11)⟩
theorem W_C_lag (I : IC s) : wp (C_lag x1 x2 s) (fun v => IC v.2 ∧ SA s v.2) := by
  have I0 := I
  obtain ⟨⟨R, h, hh, H⟩, -⟩ := I
  have hR := H.2.1
  unfold C_lag
  refine wbB (W_hasWall H) (ws ⟨I0, SA.rf⟩) (fun q => wbB W_within (ws ⟨I0, SA.rf⟩) (fun _ => ?_))
  obtain ⟨j, hj, rfl⟩ := q
  refine wb (W_exchange (by omega) (by decide)) (fun v hv => ws ?_)
  subst hv
  dsimp only
  exact I0.n (offH.up (by omega)) ⟨R, h, hh, H.up6 (b := 11)⟩
theorem W_C_sky (I : IC s) : wp (C_sky x1 x2 s) (fun v => IC v.2 ∧ SA s v.2) := by
  have I0 := I
  obtain ⟨⟨R, h, hh, H⟩, -⟩ := I
  unfold C_sky
  refine wbB W_within (ws ⟨I0, SA.rf⟩) (fun q => wbB W_within (ws ⟨I0, SA.rf⟩) (fun _ => ?_))
  obtain ⟨j, -, hj, rfl⟩ := in_nI (by decide) q (by decide)
  refine wb (W_exchange (by omega) (by decide)) (fun v hv => ws ?_)
  subst hv
  dsimp only
  exact I0.n (offH.up (by omega)) ⟨R, h, hh, H.keep (up_p (by omega)) (up_p (by omega)) (by funext r; exact up_p (by omega))⟩
theorem W_C_hours (I : IC s) : wp (C_hours x1 s) (fun v => IC v.2 ∧ SA s v.2) := by
  have I0 := I
  obtain ⟨⟨R, h, hh, H⟩, -⟩ := I
  unfold C_hours
  refine wbB W_within (ws ⟨I0, SA.rf⟩) (fun q => ?_)
  obtain ⟨N, -, hN, rfl⟩ := in_nI (by decide) q (by decide)
  refine wi (fun _ => ws ⟨I0, SA.rf⟩) (fun c => ?_)
  rw [H.2.2.1, nI_add, nI_ltI (by decide) (by omega)] at c
  exact wb (W_passHours (by omega) H (by omega)) (fun v hv => ws (I0.n hv.2 ⟨R, h + N, by omega, hv.1⟩))
theorem W_C_see (I : IC s) : wp (C_see x1 x2 x3 s) (fun v => IC v.2 ∧ SA s v.2) := by
  have I0 := I
  obtain ⟨⟨R, h, hh, H⟩, i2, ⟨⟨m, hm, em⟩, hF⟩, i4, i5⟩ := I
  have hR := H.2.1
  unfold C_see
  refine wbB W_within (ws ⟨I0, SA.rf⟩) (fun q => wbB (W_hasRoom H) (ws ⟨I0, SA.rf⟩) (fun q2 => wbB W_within (ws ⟨I0, SA.rf⟩) (fun _ => ?_)))
  obtain ⟨a, -, ha, rfl⟩ := in_nI (by decide) q (by decide)
  obtain ⟨j, hj, rfl⟩ := q2
  refine wb (P := fun v => IC v.2 ∧ SA s v.2) ?_ (fun v hv => wi (fun _ => ws hv) (fun _ => ws hv))
  unfold F_put
  rw [em]
  refine wi (fun c => ?_) (fun _ => ws ⟨I0, SA.rf⟩)
  rw [nI_ltI (by omega) (by decide)] at c
  refine wm rfl (by omega) (by decide) (wsb ?_)
  rw [up_p (by decide), em]
  refine wm rfl (by omega) (by decide) (wsb ?_)
  rw [up_p (by decide), up_p (by decide), em]
  refine wm rfl (by omega) (by decide) (wsb (wsb (ws ?_)))
  have e3 : up (up (up s 24 m (nI a)) 25 m (nI j)) 26 m x3 23 3 = nI m := by rw [up_p (by decide), up_p (by decide), up_p (by decide), em]
  rw [e3, nI_add]
  dsimp only
  have off : ∀ p, ¬ (23 ≤ p ∧ p ≤ 26) → up (up (up (up s 24 m (nI a)) 25 m (nI j)) 26 m x3) 23 3 (nI (m + 1)) p = s p := fun p hp => by
    rw [up_off (by omega), up_off (by omega), up_off (by omega), up_off (by omega)]
  refine ⟨⟨⟨R, h, hh, H.keep (by rw [off _ (by decide)]) (by rw [off _ (by decide)]) (off _ (by decide))⟩, fun k hk => ?_, ⟨⟨m + 1, by omega, up_eq⟩, fun i hi => ⟨?_, ?_⟩⟩, by rw [off _ (by decide)]; exact i4, fun k hk => by rw [off _ (by omega)]; exact i5 k hk⟩, by rw [off _ (by decide)], fun k hk => off _ (by omega)⟩
  · obtain ⟨R, h, hh, H⟩ := i2 k hk
    exact ⟨R, h, hh, H.keep (by rw [off _ (by omega)]) (by rw [off _ (by omega)]) (off _ (by omega))⟩
  · rw [up_p (by decide), up_p (by decide)]
    by_cases e : i = m
    · subst e; rw [up_eq]; exact ⟨j, by omega, rfl⟩
    · rw [up_k e, up_p (by decide)]; exact (hF i hi).1
  · rw [up_p (by decide), up_p (by decide), up_p (by decide)]
    by_cases e : i = m
    · subst e; rw [up_eq]; exact ⟨a, ha, rfl⟩
    · rw [up_k e]; exact (hF i hi).2
theorem W_C_forget (I : IC s) : wp (C_forget x1 s) (fun v => IC v.2 ∧ SA s v.2) := by
  have I0 := I
  obtain ⟨⟨R, h, hh, H⟩, i2, ⟨⟨m, hm, em⟩, hF⟩, i4, i5⟩ := I
  unfold C_forget
  rw [em]
  refine wbB W_within (ws ⟨I0, SA.rf⟩) (fun q => wsb (ws ?_))
  obtain ⟨a, -, ha, rfl⟩ := in_nI (by omega) q (by decide)
  dsimp only
  refine ⟨⟨⟨R, h, hh, H.keep (up_p (by decide)) (up_p (by decide)) (up_off (by decide))⟩, fun k hk => ?_, ⟨⟨a, by omega, up_eq⟩, fun i hi => ?_⟩, by rw [up_p (by decide)]; exact i4, fun k hk => by rw [up_p (by omega)]; exact i5 k hk⟩, up_p (by decide), fun k hk => up_off (by omega)⟩
  · obtain ⟨R, h, hh, H⟩ := i2 k hk
    exact ⟨R, h, hh, H.keep (up_p (by omega)) (up_p (by omega)) (up_off (by omega))⟩
  · rw [up_p (by decide), up_p (by decide)]; exact hF i hi
theorem W_C_keep (I : IC s) : wp (C_keep x1 s) (fun v => IC v.2 ∧ SA s v.2) := by
  have I0 := I
  obtain ⟨⟨R, h, hh, H⟩, i2, i3, i4, i5⟩ := I
  unfold C_keep
  refine wbB W_within (ws ⟨I0, SA.rf⟩) (fun q => ?_)
  obtain ⟨j, -, hj, rfl⟩ := in_nI (by decide) q (by decide)
  have t : ∀ y : Int32, wp (C_keep_25 (nI j) y s) (fun v => IC v.2 ∧ SA s v.2) := fun y => by
    unfold C_keep_25
    refine wm rfl (by omega) (by decide) (wb (W_copyFrom (b := 37 + 8 * j) (c := 11) (Or.inr (by omega)) H) (fun s1 h1 => wm rfl (by omega) (by decide) (wsb (ws ?_))))
    have off : ∀ p, ¬ (p = 20 ∨ (37 + 8 * j ≤ p ∧ p ≤ 37 + 8 * j + 7)) → up s1 20 j (vp_nar .boolean (nI 1)) p = s p := fun p hp => by
      rw [up_off (by omega), h1.2 p (by omega)]
    dsimp only
    refine ⟨⟨⟨R, h, hh, H.keep (by rw [off _ (by omega)]) (by rw [off _ (by omega)]) (off _ (by omega))⟩, fun k hk => ?_, ?_, by rw [off _ (by omega)]; exact i4, fun k hk => by rw [off _ (by omega)]; exact i5 k hk⟩, by rw [off _ (by omega)], fun k hk => off _ (by omega)⟩
    · by_cases e : k = j
      · subst e
        exact ⟨R, h, hh, h1.1.keep (up_p (by omega)) (up_p (by omega)) (up_off (by omega))⟩
      · obtain ⟨R, h, hh, H⟩ := i2 k hk
        exact ⟨R, h, hh, H.keep (by rw [off _ (by omega)]) (by rw [off _ (by omega)]) (off _ (by omega))⟩
    · unfold FI
      rw [off 23 (by omega), off 24 (by omega), off 25 (by omega)]; exact i3
  exact wm rfl (by omega) (by decide) (wi (fun _ => t _) (fun _ => t _))
theorem W_C_back (I : IC s) : wp (C_back x1 s) (fun v => IC v.2 ∧ SA s v.2) := by
  have I0 := I
  obtain ⟨-, i2, -⟩ := I
  unfold C_back
  refine wbB W_within (ws ⟨I0, SA.rf⟩) (fun q => ?_)
  obtain ⟨j, -, hj, rfl⟩ := in_nI (by decide) q (by decide)
  obtain ⟨R, h, hh, H⟩ := i2 j (by omega)
  exact wm rfl (by omega) (by decide) (wi (fun _ => ws ⟨I0, SA.rf⟩) (fun _ => wm rfl (by omega) (by decide) (wb (W_copyFrom (b := 11) (c := 37 + 8 * j) (Or.inl (by omega)) H) (fun s1 h1 => ws (I0.n h1.2 ⟨R, h, hh, h1.1⟩)))))
theorem W_isThere {b : Nat} : wp (S_isThere b s) (yn True) := by
  unfold S_isThere
  exact wi (fun _ => ws (Or.inl rfl)) (fun _ => ws (Or.inr ⟨rfl, trivial⟩))
theorem W_faultAt {b : Nat} : wp (S_faultAt b x1 x2 s) (fun v => v = 0 → ¬ x2 < 0 ∧ x2 < s b 1) := by
  unfold S_faultAt
  exact wbB W_isThere (ws (fun q => absurd q (by decide))) (fun _ => wi (fun _ => wi (fun _ => ws (fun q => absurd q (by decide))) (fun c => wi (fun c2 => ws (fun _ => ⟨c, c2⟩)) (fun _ => ws (fun q => absurd q (by decide))))) (fun _ => ws (fun q => absurd q (by decide))))
theorem W_C_lay (I : IC s) : wp (C_lay x1 x2 x3 s) (fun v => IC v.2 ∧ SA s v.2) := by
  have I0 := I
  obtain ⟨⟨R, h, hh, H⟩, i2, i3, i4, i5⟩ := I
  unfold C_lay
  refine wbB W_within (ws ⟨I0, SA.rf⟩) (fun q => ?_)
  obtain ⟨j, -, hj, rfl⟩ := in_nI (by decide) q (by decide)
  refine wm rfl (by omega) (by decide) (wb W_faultAt (fun v hv => wi (fun c => ?_) (fun _ => ws ⟨I0, SA.rf⟩)))
  obtain ⟨c1, c2⟩ := hv c
  obtain ⟨n, hn, en⟩ := i5 j (by omega)
  obtain ⟨i, hi, rfl⟩ := nI_of c1
  rw [en, nI_ltI hi (by omega)] at c2
  have t : ∀ y : Int32, wp (S_put_31 (133 + 2 * j) y (nI i) s) (fun s' => IC s' ∧ SA s s') := fun y => by
    unfold S_put_31
    refine wm rfl (by omega) (by decide) (wsb (ws ?_))
    refine ⟨⟨⟨R, h, hh, H.keep (up_p (by omega)) (up_p (by omega)) (up_off (by omega))⟩, fun k hk => ?_, ?_, by rw [up_p (by omega)]; exact i4, fun k hk => by rw [up_p (by omega)]; exact i5 k hk⟩, up_p (by omega), fun k hk => up_off (by omega)⟩
    · obtain ⟨R, h, hh, H⟩ := i2 k hk
      exact ⟨R, h, hh, H.keep (up_p (by omega)) (up_p (by omega)) (up_off (by omega))⟩
    · unfold FI
      rw [up_off (by omega), up_off (by omega), up_off (by omega)]; exact i3
  refine wb (P := fun s' => IC s' ∧ SA s s') ?_ (fun s1 h1 => ws h1)
  unfold S_put
  exact wi (fun _ => t _) (fun _ => wi (fun _ => t _) (fun _ => t _))
theorem W_renew12 {b N : Nat} (hN : N ≤ 40) : ∀ (n r fu : Nat) (s : sg), r + n = N → n < fu → wp (S_renew_12 b (nI N) fu (nI r) s) (fun s' => ∀ p, p ≠ b + 1 → s' p = s p)
  | n, r, 0, s, hr, hf => absurd hf (by omega)
  | n, r, fu + 1, s, hr, hf => by
    rw [S_renew_12]
    refine wi (fun c => wi (fun _ => ?_) (fun _ => ws (fun _ _ => rfl))) (fun c => ws (fun _ _ => rfl))
    rw [nI_ltI (by omega) (by omega)] at c
    obtain ⟨n, rfl⟩ : ∃ m, n = m + 1 := ⟨n - 1, by omega⟩
    refine wm rfl (by omega) (by decide) (wsb ?_)
    rw [nI_add]
    exact wc (W_renew12 hN n (r + 1) fu _ (by omega) (by omega)) (fun a ha p hp => (ha p hp).trans (up_off hp))
/-- a sheet is made anew -/
theorem W_C_sheet (I : IC s) : wp (C_sheet x1 x2 x3 s) (fun v => IC v.2 ∧ v.2 27 1 = s 27 1 ∧ ((∀ k : Nat, k < 4 → v.2 (133 + 2 * k) = s (133 + 2 * k)) ∨ ∃ j l n : Nat, j < 4 ∧ l < 3 ∧ n ≤ 40 ∧ x1 = nI j ∧ x2 = nI l ∧ x3 = nI n ∧ v.2 (133 + 2 * j) 0 = nI l ∧ v.2 (133 + 2 * j) 1 = nI n ∧ ∀ k : Nat, k < 4 → k ≠ j → v.2 (133 + 2 * k) = s (133 + 2 * k))) := by
  have I0 := I
  obtain ⟨⟨R, h, hh, H⟩, i2, i3, i4, i5⟩ := I
  have z := fun (v : Int32 × sg) (e : v.2 = s) => (show IC v.2 ∧ v.2 27 1 = s 27 1 ∧ ((∀ k : Nat, k < 4 → v.2 (133 + 2 * k) = s (133 + 2 * k)) ∨ ∃ j l n : Nat, j < 4 ∧ l < 3 ∧ n ≤ 40 ∧ x1 = nI j ∧ x2 = nI l ∧ x3 = nI n ∧ v.2 (133 + 2 * j) 0 = nI l ∧ v.2 (133 + 2 * j) 1 = nI n ∧ ∀ k : Nat, k < 4 → k ≠ j → v.2 (133 + 2 * k) = s (133 + 2 * k)) from by rw [e]; exact ⟨I0, rfl, Or.inl (fun _ _ => rfl)⟩)
  unfold C_sheet
  refine wbB W_within (ws (z _ rfl)) (fun q => wbB W_within (ws (z _ rfl)) (fun q2 => wi (fun _ => ws (z _ rfl)) (fun c => wi (fun _ => ws (z _ rfl)) (fun c2 => ?_))))
  obtain ⟨j, -, hj, rfl⟩ := in_nI (by decide) q (by decide)
  obtain ⟨l, -, hl, rfl⟩ := in_nI (by decide) q2 (by decide)
  obtain ⟨n, hn, rfl⟩ := nI_of c2
  rw [nI_ltI (by decide) hn] at c
  refine wm rfl (by omega) (by decide) ?_
  refine wb (P := fun s' => s' (133 + 2 * j) 0 = nI l ∧ s' (133 + 2 * j) 1 = nI n ∧ ∀ p, p ≠ 133 + 2 * j → p ≠ 134 + 2 * j → s' p = s p) ?_ (fun s1 h1 => ws ?_)
  · unfold S_renew
    refine wsb (wsb (wc (W_renew12 (b := 133 + 2 * j) (by omega) n 0 FU _ (by omega) (by show n < 100000; omega)) (fun s' hs => ⟨?_, ?_, fun p h1 h2 => ?_⟩)))
    · rw [hs _ (by omega), up_k (by decide), up_eq]
    · rw [hs _ (by omega), up_eq]
    · rw [hs _ (by omega), up_off h1, up_off h1]
  · obtain ⟨e0, e1, off⟩ := h1
    dsimp only
    refine ⟨⟨⟨R, h, hh, H.keep (by rw [off _ (by omega) (by omega)]) (by rw [off _ (by omega) (by omega)]) (off _ (by omega) (by omega))⟩, fun k hk => ?_, ?_, by rw [off _ (by omega) (by omega)]; exact i4, fun k hk => ?_⟩, by rw [off _ (by omega) (by omega)], Or.inr ⟨j, l, n, by omega, by omega, by omega, rfl, rfl, rfl, e0, e1, fun k hk hkj => off _ (by omega) (by omega)⟩⟩
    · obtain ⟨R, h, hh, H⟩ := i2 k hk
      exact ⟨R, h, hh, H.keep (by rw [off _ (by omega) (by omega)]) (by rw [off _ (by omega) (by omega)]) (off _ (by omega) (by omega))⟩
    · unfold FI
      rw [off 23 (by omega) (by omega), off 24 (by omega) (by omega), off 25 (by omega) (by omega)]; exact i3
    · by_cases e : k = j
      · subst e; exact ⟨n, by omega, e1⟩
      · rw [off _ (by omega) (by omega)]; exact i5 k hk
theorem W_pair {b : Nat} : wp (S_faultAtPair b x1 x2 s) (fun v => v = 0 → (¬ x2 < 0 ∧ x2 < s b 1) ∧ ¬ x2 + nI 1 < 0 ∧ x2 + nI 1 < s b 1) := by
  unfold S_faultAtPair
  exact wb W_faultAt (fun v hv => wi (fun c => wb W_faultAt (fun w hw => ws (fun q => ⟨hv c, hw q⟩))) (fun c => ws (fun q => absurd q c)))
theorem W_read54 {j N : Nat} {s0 : sg} (I0 : IC s0) (hj : j < 4) (hN : N ≤ 20) {R : Nat} : ∀ (n r fu : Nat) (s : sg) (h : Nat) (x7 x8 : Int32), offT s0 s → HS s 53 R h → h ≤ 999 → r + n = N → n < fu → wp (C_read_54 x2 x3 (nI N) (133 + 2 * j) fu x7 x8 (nI r) s) (fun v => IC v.2 ∧ SA s0 v.2)
  | n, r, 0, s, h, x7, x8, o, H, hh, hr, hf => absurd hf (by omega)
  | n, r, fu + 1, s, h, x7, x8, o, H, hh, hr, hf => by
    have I := I0.t o
    have fin : wp (C_read_130 x7 x8 s) (fun v => IC v.2 ∧ SA s0 v.2) := by
      unfold C_read_130
      refine wb (W_copyFrom (b := 11) (c := 53) (Or.inl (by decide)) H) (fun s1 h1 => wsb (ws ?_))
      have g := I.1.n h1.2 ⟨R, h, hh, h1.1⟩
      obtain ⟨⟨⟨R', h', hh', H'⟩, i2, i3, i4, i5⟩, sa⟩ := g
      dsimp only
      refine ⟨⟨⟨R', h', hh', H'.keep (up_p (by decide)) (up_p (by decide)) (up_off (by decide))⟩, fun k hk => ?_, ?_, by rw [up_p (by decide)]; exact i4, fun k hk => by rw [up_p (by omega)]; exact i5 k hk⟩, ?_, fun k hk => ?_⟩
      · obtain ⟨R, h, hh, H⟩ := i2 k hk
        exact ⟨R, h, hh, H.keep (up_p (by omega)) (up_p (by omega)) (up_off (by omega))⟩
      · unfold FI
        rw [up_off (by decide), up_off (by decide), up_off (by decide)]; exact i3
      · rw [up_p (by decide), sa.1, I.2.1]
      · rw [up_off (by omega), sa.2 k hk, I.2.2 k hk]
    rw [C_read_54]
    refine wi (fun c => wi (fun _ => wb W_pair (fun v1 hv1 => wi (fun c1 => ?_) (fun _ => ?_))) (fun _ => fin)) (fun _ => fin)
    · rw [nI_ltI (by omega) (by omega)] at c
      obtain ⟨n, rfl⟩ : ∃ m, n = m + 1 := ⟨n - 1, by omega⟩
      obtain ⟨⟨a1, a2⟩, a3, a4⟩ := hv1 c1
      obtain ⟨m, hm, em⟩ := I.1.2.2.2.2 j hj
      obtain ⟨i, hi, ei⟩ := nI_of a1
      obtain ⟨i2, hi2, ei2⟩ := nI_of a3
      rw [em] at a2 a4
      rw [ei, nI_ltI hi (by omega)] at a2
      rw [ei2, nI_ltI hi2 (by omega)] at a4
      refine wm ei (by omega) (by decide) (wm ei2 (by omega) (by decide) (wb (W_takesMark H (by omega)) (fun v hv => ?_)))
      have o2 : offT s0 v.2 := o.tr (hv.2.1.t (by decide) (by decide))
      refine wi (fun _ => ws (I0.t o2)) (fun c4 => ?_)
      rw [nI_add r 1]
      rcases hv.2.2 with ⟨-, h9, H9⟩ | H9
      · exact W_read54 I0 hj hN n (r + 1) fu v.2 (h + 1) _ _ o2 H9 (by omega) (by omega) (by omega)
      · exact W_read54 I0 hj hN n (r + 1) fu v.2 h _ _ o2 H9 hh (by omega) (by omega)
    · rw [nI_ltI (by omega) (by omega)] at c
      obtain ⟨n, rfl⟩ : ∃ m, n = m + 1 := ⟨n - 1, by omega⟩
      rw [nI_add r 1]
      exact W_read54 I0 hj hN n (r + 1) fu s h _ _ o H hh (by omega) (by omega)
theorem W_C_read (I : IC s) : wp (C_read x1 x2 x3 x4 s) (fun v => IC v.2 ∧ SA s v.2) := by
  have I0 := I
  obtain ⟨⟨R, h, hh, H⟩, -⟩ := I
  unfold C_read
  refine wbB W_within (ws ⟨I0, SA.rf⟩) (fun q => wbB W_within (ws ⟨I0, SA.rf⟩) (fun _ => wbB W_within (ws ⟨I0, SA.rf⟩) (fun q2 => ?_)))
  obtain ⟨j, -, hj, rfl⟩ := in_nI (by decide) q (by decide)
  obtain ⟨N, -, hN, rfl⟩ := in_nI (by decide) q2 (by decide)
  exact wm rfl (by omega) (by decide) (wb (W_copyOfNow H) (fun s1 h1 => W_read54 I0 (by omega) hN N 0 FU s1 h _ _ h1.2 h1.1 hh (by omega) (by show N < 100000; omega)))
theorem W_C_count : wp (C_count x1 s) (fun _ => True) := by
  unfold C_count
  have t : ∀ y : Int32, wp (C_count_62 y s) (fun _ => True) := fun y => by
    unfold C_count_62
    exact wm rfl (by decide) (by decide) (wi (fun _ => ws trivial) (fun _ => ws trivial))
  exact wi (fun _ => ws trivial) (fun _ => wi (fun _ => wm rfl (by decide) (by decide) (wi (fun _ => t _) (fun _ => t _))) (fun _ => wi (fun _ => ws trivial) (fun _ => wi (fun _ => wbB W_isThere (ws trivial) (fun _ => ws trivial)) (fun _ => wi (fun _ => wb (W_sumOf (by decide)) (fun _ _ => ws trivial)) (fun _ => wi (fun _ => wb (W_sumOf (by decide)) (fun _ _ => ws trivial)) (fun _ => ws trivial))))))
end CALLS
end Q45
section Q46
/-! the teller: a text is read to its end -/
def keepC (s s' : sg) : Prop := ∀ p k, ¬ (p = 27 ∧ (k = 3 ∨ k = 4 ∨ k = 6 ∨ k = 7 ∨ k = 8)) → s' p k = s p k
theorem keepC.rf {s : sg} : keepC s s := fun _ _ _ => rfl
theorem keepC.tr {s s' s'' : sg} (h1 : keepC s s') (h2 : keepC s' s'') : keepC s s'' := fun p k hp => (h2 p k hp).trans (h1 p k hp)
theorem keepC.ud {s : sg} {k : Nat} {v : Int32} (h : k = 3 ∨ k = 4 ∨ k = 6 ∨ k = 7 ∨ k = 8) : keepC s (up s 27 k v) := fun p j hp => by
  rw [up, if_neg (fun w => hp ⟨w.1, by rw [w.2]; exact h⟩)]
def digs (s : sg) (a b : Nat) : Prop := ∀ i : Nat, a ≤ i → i < b → ∃ d : Nat, d < 10 ∧ s 28 i = nI (48 + d)
def CU (s : sg) (L : Nat) : Prop := ∃ st bh : Nat, s 27 7 = nI st ∧ s 27 8 = nI bh ∧ st ≤ bh ∧ bh ≤ L ∧ (s 27 6 = nI 2 → bh ≤ st + 2 ∧ digs s st bh)
def keepF (s s' : sg) : Prop := ∀ p k, ¬ (p = 27 ∧ (k = 3 ∨ k = 4)) → s' p k = s p k
theorem keepF.rf {s : sg} : keepF s s := fun _ _ _ => rfl
theorem keepF.c {s s' : sg} (h : keepF s s') : keepC s s' := fun p k hp => h p k (fun w => hp ⟨w.1, by omega⟩)
theorem keepF.cu {s s' : sg} {L : Nat} (h : keepF s s') (C : CU s L) : CU s' L := by
  obtain ⟨st, bh, h1, h2, h3, h4, h5⟩ := C
  refine ⟨st, bh, (h 27 7 (by omega)).trans h1, (h 27 8 (by omega)).trans h2, h3, h4, fun q => ?_⟩
  rw [h 27 6 (by omega)] at q
  refine ⟨(h5 q).1, fun i h1 h2 => ?_⟩
  rw [h 28 i (by omega)]; exact (h5 q).2 i h1 h2
section TELL
variable {s : sg} {L : Nat} {x x1 x2 x3 : Int32}
theorem W_fail {c : Nat} (hc : 0 < c) (hc2 : c < 1000) : wp (T_fail (nI c) x2 s) (fun s' => keepF s s' ∧ ¬ s' 27 3 = 0) := by
  unfold T_fail
  refine wi (fun _ => wsb (wsb (ws ⟨fun p k hp => ?_, ?_⟩))) (fun q => ws ⟨keepF.rf, q⟩)
  · rw [up, if_neg (fun w => hp ⟨w.1, Or.inr w.2⟩), up, if_neg (fun w => hp ⟨w.1, Or.inl w.2⟩)]
  · rw [up_k (by decide), up_eq]; exact nI_ne0 hc (by omega)
theorem W_place5 (hL : L ≤ 160) (eL : s 27 1 = nI L) : ∀ (n b fu : Nat), b + n = L → n < fu → wp (T_placeOfNext_5 s fu (nI b)) (fun v => ∃ st : Nat, b ≤ st ∧ st ≤ L ∧ v = nI st)
  | n, b, 0, hb, hf => absurd hf (by omega)
  | n, b, fu + 1, hb, hf => by
    rw [T_placeOfNext_5, eL]
    refine wi (fun c => ?_) (fun _ => ws ⟨b, by omega, by omega, rfl⟩)
    rw [nI_ltI (by omega) (by omega)] at c
    obtain ⟨n, rfl⟩ : ∃ m, n = m + 1 := ⟨n - 1, by omega⟩
    refine wm rfl (by omega) (by decide) (wi (fun _ => ?_) (fun _ => ws ⟨b, by omega, by omega, rfl⟩))
    rw [nI_add]
    exact wc (W_place5 hL eL n (b + 1) fu (by omega) (by omega)) (fun v hv => by obtain ⟨st, h1, h2, h3⟩ := hv; exact ⟨st, by omega, h2, h3⟩)
theorem W_placeOfNext {b : Nat} (hL : L ≤ 160) (eL : s 27 1 = nI L) (eb : s 27 8 = nI b) (hb : b ≤ L) : wp (T_placeOfNext s) (fun v => ∃ st : Nat, b ≤ st ∧ st ≤ L ∧ v = nI st) := by
  unfold T_placeOfNext
  rw [eb]
  exact W_place5 hL eL (L - b) b FU (by omega) (by show L - b < 100000; omega)
def srt (x v : Int32) : Prop := v = nI 1 ∨ (v = nI 2 ∧ ∃ d : Nat, d < 10 ∧ x = nI (48 + d)) ∨ v = nI 3 ∨ v = nI 4
theorem W_sortOf : wp (T_sortOf x s) (srt x) := by
  have t28 : wp (T_sortOf_28 x s) (srt x) := by
    unfold T_sortOf_28
    exact wi (fun _ => ws (Or.inr (Or.inr (Or.inl rfl)))) (fun _ => ws (Or.inr (Or.inr (Or.inr rfl))))
  have t14 : wp (T_sortOf_14 x s) (srt x) := by
    unfold T_sortOf_14
    refine wi (fun _ => t28) (fun c => wi (fun _ => t28) (fun c2 => ws (Or.inr (Or.inl ⟨rfl, ?_⟩))))
    obtain ⟨j, h1, h2, rfl⟩ := in_nI (by decide) ⟨c, c2⟩ (by decide)
    exact ⟨j - 48, by omega, by rw [show 48 + (j - 48) = j by omega]⟩
  unfold T_sortOf
  exact wi (fun _ => t14) (fun _ => wi (fun _ => t14) (fun _ => ws (Or.inl rfl)))
theorem sub_nI {a b : Nat} (h : b ≤ a) : nI a - nI b = nI (a - b) := pk_sub h
theorem W_nt153 {st bh : Nat} (e7 : s 27 7 = nI st) (e8 : s 27 8 = nI bh) (h1 : st ≤ bh) (h2 : bh ≤ L) : wp (T_nextToken_153 s) (fun s' => keepC s s' ∧ CU s' L) := by
  unfold T_nextToken_153
  refine wsb (wb (W_fail (by decide) (by decide)) (fun s2 g => ws ⟨(keepC.ud (by omega)).tr g.1.c, st, bh, ?_, ?_, h1, h2, fun q => ?_⟩))
  · rw [g.1 27 7 (by omega), up_k (by decide)]; exact e7
  · rw [g.1 27 8 (by omega), up_k (by decide)]; exact e8
  · rw [g.1 27 6 (by omega), up_eq] at q
    exact absurd q (by decide)
theorem W_nt124 {st bh : Nat} (hL : L ≤ 160) (e7 : s 27 7 = nI st) (e8 : s 27 8 = nI bh) (h1 : st ≤ bh) (h2 : bh ≤ L) (hd : s 27 6 = nI 2 → digs s st bh) : wp (T_nextToken_124 s) (fun s' => keepC s s' ∧ CU s' L) := by
  unfold T_nextToken_124
  refine wi (fun _ => W_nt153 e7 e8 h1 h2) (fun _ => wi (fun q => ?_) (fun q => ws ⟨keepC.rf, st, bh, e7, e8, h1, h2, fun w => absurd w q⟩))
  rw [e7, e8, sub_nI h1]
  refine wi (fun _ => W_nt153 e7 e8 h1 h2) (fun c => ws ⟨keepC.rf, st, bh, e7, e8, h1, h2, fun _ => ⟨?_, hd q⟩⟩)
  rw [nI_ltI (by decide) (by omega)] at c
  omega
theorem W_nt81 {st : Nat} (hL : L ≤ 160) : ∀ (n bh fu : Nat) (s : sg), s 27 1 = nI L → s 27 7 = nI st → s 27 8 = nI bh → st ≤ bh → bh + n = L → n < fu → (s 27 6 = nI 2 → digs s st bh) → wp (T_nextToken_81 fu s) (fun s' => keepC s s' ∧ CU s' L)
  | n, bh, 0, s, eL, e7, e8, h1, h2, hf, hd => absurd hf (by omega)
  | n, bh, fu + 1, s, eL, e7, e8, h1, h2, hf, hd => by
    have w := W_nt124 (s := s) hL e7 e8 h1 (by omega) hd
    rw [T_nextToken_81, eL, e8]
    refine wi (fun c => ?_) (fun _ => w)
    rw [nI_ltI (by omega) (by omega)] at c
    obtain ⟨n, rfl⟩ : ∃ m, n = m + 1 := ⟨n - 1, by omega⟩
    refine wm rfl (by omega) (by decide) (wb W_sortOf (fun v hv => wi (fun c2 => wsb ?_) (fun _ => w)))
    rw [nI_add]
    refine wc (W_nt81 (st := st) hL n (bh + 1) fu _ ?_ ?_ up_eq (by omega) (by omega) (by omega) (fun q i hi1 hi2 => ?_)) (fun a ha => ⟨(keepC.ud (by omega)).tr ha.1, ha.2⟩)
    · rw [up_k (by decide)]; exact eL
    · rw [up_k (by decide)]; exact e7
    · rw [up_k (by decide)] at q
      rw [up_p (by decide)]
      by_cases e : i = bh
      · subst e
        rw [q] at c2
        rcases hv with g | ⟨-, g⟩ | g | g
        · rw [c2] at g; exact absurd g (by decide)
        · exact g
        · rw [c2] at g; exact absurd g (by decide)
        · rw [c2] at g; exact absurd g (by decide)
      · exact hd q i hi1 (by omega)
theorem W_nextToken {b : Nat} (hL : L ≤ 160) (eL : s 27 1 = nI L) (eb : s 27 8 = nI b) (hb : b ≤ L) : wp (T_nextToken s) (fun s' => keepC s s' ∧ CU s' L) := by
  unfold T_nextToken
  refine wb (W_placeOfNext hL eL eb hb) (fun v hv => wsb (wsb ?_))
  obtain ⟨st, h1, h2, rfl⟩ := hv
  rw [up_eq]
  have k0 : keepC s (up (up s 27 7 (nI st)) 27 8 (nI st)) := (keepC.ud (by omega)).tr (keepC.ud (by omega))
  have a1 : up (up s 27 7 (nI st)) 27 8 (nI st) 27 1 = nI L := by rw [up_k (by decide), up_k (by decide)]; exact eL
  have a7 : up (up s 27 7 (nI st)) 27 8 (nI st) 27 7 = nI st := by rw [up_k (by decide), up_eq]
  have a8 : up (up s 27 7 (nI st)) 27 8 (nI st) 27 8 = nI st := up_eq
  generalize up (up s 27 7 (nI st)) 27 8 (nI st) = s2 at k0 a1 a7 a8
  have t65 : ∀ (s3 : sg) (bh : Nat), keepC s s3 → s3 27 1 = nI L → s3 27 7 = nI st → s3 27 8 = nI bh → st ≤ bh → bh ≤ L → (s3 27 6 = nI 2 → digs s3 st bh) → wp (T_nextToken_65 s3) (fun s' => keepC s s' ∧ CU s' L) := fun s3 bh k3 c1 c7 c8 g1 g2 gd => by
    have w := wc (W_nt81 hL (L - bh) bh FU s3 c1 c7 c8 g1 (by omega) (by show L - bh < 100000; omega) gd) (fun a ha => (⟨k3.tr ha.1, ha.2⟩ : keepC s a ∧ CU a L))
    unfold T_nextToken_65
    exact wi (fun _ => w) (fun _ => wi (fun _ => w) (fun _ => wc (W_nt124 hL c7 c8 g1 g2 gd) (fun a ha => ⟨k3.tr ha.1, ha.2⟩)))
  have t44 : ∀ y : Int32, (st = L → y = nI 0) → wp (T_nextToken_44 y s2) (fun s' => keepC s s' ∧ CU s' L) := fun y hy => by
    unfold T_nextToken_44
    refine wsb ?_
    rw [up_eq, up_k (by decide), a8]
    have nil : ∀ s', digs s' st st := fun s' i q1 q2 => absurd q1 (by omega)
    refine wi (fun c => wsb ?_) (fun _ => ?_)
    · have hlt : st < L := by
        rcases Nat.lt_or_ge st L with q | q
        · exact q
        · rw [hy (by omega)] at c; exact absurd c (by decide)
      rw [nI_add]
      refine t65 _ (st + 1) ((k0.tr (keepC.ud (by omega))).tr (keepC.ud (by omega))) ?_ ?_ up_eq (by omega) (by omega) (fun q => ?_)
      · rw [up_k (by decide), up_k (by decide)]; exact a1
      · rw [up_k (by decide), up_k (by decide)]; exact a7
      · rw [up_k (by decide), up_eq, c] at q
        exact absurd q (by decide)
    · refine t65 _ st (k0.tr (keepC.ud (by omega))) ?_ ?_ ?_ (by omega) (by omega) (fun _ => nil _)
      · rw [up_k (by decide)]; exact a1
      · rw [up_k (by decide)]; exact a7
      · rw [up_k (by decide)]; exact a8
  rw [a7, a1]
  refine wi (fun c => ?_) (fun _ => t44 _ (fun _ => rfl))
  rw [nI_ltI (by omega) (by omega)] at c
  exact wm rfl (by omega) (by decide) (wb W_sortOf (fun v _ => t44 v (fun q => absurd q (by omega))))
theorem W_tv7 {st bh : Nat} (hL : L ≤ 160) (e8 : s 27 8 = nI bh) (h2 : bh ≤ L) (hd : s 27 6 = nI 2 → bh ≤ st + 2 ∧ digs s st bh) : ∀ (n i fu a : Nat), st ≤ i → i + n = bh → n < fu → (s 27 6 = nI 2 → a < 10 ^ (i - st)) → a ≤ 99 → wp (T_tokenValue_7 s fu (nI a) (nI i)) (fun v => ∃ k : Nat, k ≤ 99 ∧ v = nI k)
  | n, i, 0, a, h1, hi, hf, ha, ha2 => absurd hf (by omega)
  | n, i, fu + 1, a, h1, hi, hf, ha, ha2 => by
    rw [T_tokenValue_7, e8]
    refine wi (fun c => wi (fun q => ?_) (fun _ => ws ⟨a, ha2, rfl⟩)) (fun _ => ws ⟨a, ha2, rfl⟩)
    rw [nI_ltI (by omega) (by omega)] at c
    obtain ⟨n, rfl⟩ : ∃ m, n = m + 1 := ⟨n - 1, by omega⟩
    obtain ⟨h3, hd⟩ := hd q
    obtain ⟨d, hd1, hd2⟩ := hd i h1 c
    refine wm rfl (by omega) (by decide) ?_
    rw [hd2, pk_mul, nI_add, sub_nI (by omega), nI_add, show 10 * a + (48 + d) - 48 = 10 * a + d by omega]
    have ha := ha q
    have hb : 10 * a + d < 10 ^ (i + 1 - st) := by
      rw [show i + 1 - st = (i - st) + 1 by omega, Nat.pow_succ]; omega
    have hb2 : 10 ^ (i + 1 - st) ≤ 10 ^ 2 := Nat.pow_le_pow_right (by decide) (by omega)
    exact W_tv7 hL e8 h2 (fun q => ⟨h3, (by assumption)⟩) n (i + 1) fu (10 * a + d) (by omega) (by omega) (by omega) (fun _ => hb) (by omega)
theorem W_tokenValue (hL : L ≤ 160) (C : CU s L) : wp (T_tokenValue s) (fun v => ∃ k : Nat, k ≤ 99 ∧ v = nI k) := by
  obtain ⟨st, bh, e7, e8, h1, h2, h5⟩ := C
  unfold T_tokenValue
  rw [e7]
  exact W_tv7 hL e8 h2 h5 (bh - st) st FU 0 (by omega) (by omega) (by show bh - st < 100000; omega) (fun _ => by rw [Nat.sub_self]; decide) (by decide)
theorem CU.bh (C : CU s L) : ∃ b : Nat, s 27 8 = nI b ∧ b ≤ L := by
  obtain ⟨st, bh, e7, e8, h1, h2, h5⟩ := C
  exact ⟨bh, e8, h2⟩
theorem W_nextNumber {M b : Nat} (hM : M < 1000) (hL : L ≤ 160) (eL : s 27 1 = nI L) (eb : s 27 8 = nI b) (hb : b ≤ L) : wp (T_nextNumber (nI M) s) (fun v => keepC s v.2 ∧ CU v.2 L ∧ ∃ k : Nat, k ≤ M ∧ v.1 = nI k) := by
  unfold T_nextNumber
  refine wb (W_nextToken hL eL eb hb) (fun s1 h1 => wb (W_tokenValue hL h1.2) (fun v2 h2 => ?_))
  obtain ⟨k, hk, rfl⟩ := h2
  have bad : ∀ s2, keepF s1 s2 ∧ ¬ s2 27 3 = 0 → wp (T_nextNumber_43 (nI k) s2) (fun v => keepC s v.2 ∧ CU v.2 L ∧ ∃ k : Nat, k ≤ M ∧ v.1 = nI k) := fun s2 g => by
    unfold T_nextNumber_43
    exact wi (fun q => absurd q g.2) (fun _ => ws ⟨h1.1.tr g.1.c, g.1.cu h1.2, 0, by omega, rfl⟩)
  refine wi (fun _ => wi (fun _ => wb (W_fail (by decide) (by decide)) bad) (fun c => ?_)) (fun _ => wb (W_fail (by decide) (by decide)) bad)
  rw [nI_ltI (by omega) (by omega)] at c
  unfold T_nextNumber_43
  exact wi (fun _ => ws ⟨h1.1, h1.2, k, by omega, rfl⟩) (fun _ => ws ⟨h1.1, h1.2, 0, by omega, rfl⟩)
theorem W_endLine {b : Nat} (hL : L ≤ 160) (eL : s 27 1 = nI L) (eb : s 27 8 = nI b) (hb : b ≤ L) : wp (T_endLine s) (fun s' => keepC s s' ∧ CU s' L) := by
  unfold T_endLine
  refine wb (W_nextToken hL eL eb hb) (fun s1 h1 => wi (fun _ => ws h1) (fun _ => wb (W_fail (by decide) (by decide)) (fun s2 g => ws ⟨h1.1.tr g.1.c, g.1.cu h1.2⟩)))
end TELL
end Q46
section Q47
/-! the teller's lines, the text -/
def offL (s s' : sg) : Prop := ∀ p, ¬ (p = 27 ∨ (29 ≤ p ∧ p ≤ 36)) → s' p = s p
theorem keepC.l {s s' : sg} (h : keepC s s') : offL s s' := fun p hp => by funext k; exact h p k (by omega)
def TQ (s0 : sg) (L : Nat) (s : sg) : Prop := (s 27 1 = nI L ∧ L ≤ 160 ∧ (∃ R : Nat, HS s 29 R 0) ∧ CU s L) ∧ offL s0 s
theorem CU.out {s : sg} {L p k : Nat} {v : Int32} (C : CU s L) (h : p ≠ 27 ∧ p ≠ 28) : CU (up s p k v) L := by
  obtain ⟨st, bh, e7, e8, h1, h2, h5⟩ := C
  refine ⟨st, bh, (up_p (by omega)).trans e7, (up_p (by omega)).trans e8, h1, h2, fun q => ?_⟩
  rw [up_p (by omega)] at q
  refine ⟨(h5 q).1, fun i a b => ?_⟩
  rw [up_p (by omega)]; exact (h5 q).2 i a b
theorem CU.in27 {s : sg} {L k : Nat} {v : Int32} (C : CU s L) (h : k ≠ 6 ∧ k ≠ 7 ∧ k ≠ 8) : CU (up s 27 k v) L := by
  obtain ⟨st, bh, e7, e8, h1, h2, h5⟩ := C
  refine ⟨st, bh, (up_k (by omega)).trans e7, (up_k (by omega)).trans e8, h1, h2, fun q => ?_⟩
  rw [up_k (by omega)] at q
  refine ⟨(h5 q).1, fun i a b => ?_⟩
  rw [up_p (by decide)]; exact (h5 q).2 i a b
section LINES
variable {s s0 : sg} {L : Nat} {x x1 x2 x3 : Int32}
theorem TQ.c {s' : sg} (q : TQ s0 L s) (k : keepC s s') (C : CU s' L) : TQ s0 L s' := by
  obtain ⟨⟨h1, h2, ⟨R, h3⟩, h4⟩, o⟩ := q
  refine ⟨⟨(k 27 1 (by omega)).trans h1, h2, ⟨R, h3.keep (k 29 0 (by omega)) (k 29 2 (by omega)) (by funext r; exact k 33 r (by omega))⟩, C⟩, fun p hp => (k.l p hp).trans (o p hp)⟩
theorem TQ.f {s' : sg} (q : TQ s0 L s) (k : keepF s s') : TQ s0 L s' := q.c k.c (k.cu q.1.2.2.2)
theorem TQ.fail {c : Nat} (hc : 0 < c) (hc2 : c < 1000) (q : TQ s0 L s) : wp (T_fail (nI c) x2 s) (TQ s0 L) := wc (W_fail hc hc2) (fun s' g => q.f g.1)
theorem TQ.num {M : Nat} (hM : M < 1000) (q : TQ s0 L s) : wp (T_nextNumber (nI M) s) (fun v => TQ s0 L v.2 ∧ ∃ k : Nat, k ≤ M ∧ v.1 = nI k) := by
  obtain ⟨b, e8, hb⟩ := q.1.2.2.2.bh
  exact wc (W_nextNumber hM q.1.2.1 q.1.1 e8 hb) (fun v g => ⟨q.c g.1 g.2.1, g.2.2⟩)
theorem TQ.fin (q : TQ s0 L s) : wp (T_endLine s) (TQ s0 L) := by
  obtain ⟨b, e8, hb⟩ := q.1.2.2.2.bh
  exact wc (W_endLine q.1.2.1 q.1.1 e8 hb) (fun v g => q.c g.1 g.2)
theorem TQ.tok (q : TQ s0 L s) : wp (T_nextToken s) (TQ s0 L) := by
  obtain ⟨b, e8, hb⟩ := q.1.2.2.2.bh
  exact wc (W_nextToken q.1.2.1 q.1.1 e8 hb) (fun v g => q.c g.1 g.2)
theorem TQ.u30 {p k : Nat} {v : Int32} (q : TQ s0 L s) (hp : 30 ≤ p ∧ p ≤ 36 ∧ p ≠ 33) : TQ s0 L (up s p k v) := by
  obtain ⟨⟨h1, h2, ⟨R, h3⟩, h4⟩, o⟩ := q
  exact ⟨⟨(up_p (by omega)).trans h1, h2, ⟨R, h3.keep (up_p (by omega)) (up_p (by omega)) (up_off (by omega))⟩, h4.out (by omega)⟩, fun p hp => (up_off (by omega)).trans (o p hp)⟩
theorem TQ.u33 {k : Nat} {v : Int32} (q : TQ s0 L s) (hv : tg v) : TQ s0 L (up s 33 k v) := by
  obtain ⟨⟨h1, h2, ⟨R, h3⟩, h4⟩, o⟩ := q
  exact ⟨⟨(up_p (by omega)).trans h1, h2, ⟨R, h3.up4 (b := 29) hv⟩, h4.out (by omega)⟩, fun p hp => (up_off (by omega)).trans (o p hp)⟩
theorem TQ.u27 {k : Nat} {v : Int32} (q : TQ s0 L s) (hk : k ≠ 1 ∧ k ≠ 6 ∧ k ≠ 7 ∧ k ≠ 8) : TQ s0 L (up s 27 k v) := by
  obtain ⟨⟨h1, h2, ⟨R, h3⟩, h4⟩, o⟩ := q
  exact ⟨⟨(up_k (by omega)).trans h1, h2, ⟨R, h3.keep (up_p (by omega)) (up_p (by omega)) (up_off (by omega))⟩, h4.in27 (by omega)⟩, fun p hp => (up_off (by omega)).trans (o p hp)⟩
theorem W_tellRoom (q : TQ s0 L s) : wp (T_tellRoom s) (TQ s0 L) := by
  unfold T_tellRoom
  obtain ⟨R, h3⟩ := q.1.2.2.1
  refine wi (fun c => wsb ?_) (fun _ => wb (q.fail (by decide) (by decide)) (fun s1 h1 => ws h1))
  have hR := h3.2.1
  rw [h3.1, nI_ltI (by omega) (by decide)] at c
  rw [h3.1, nI_add]
  have q1 : TQ s0 L (up s 29 0 (nI (R + 1))) := by
    obtain ⟨⟨h1, h2, -, h4⟩, o⟩ := q
    exact ⟨⟨(up_p (by omega)).trans h1, h2, ⟨R + 1, up_eq, by omega, (up_k (by decide)).trans h3.2.2.1, fun r hr => by rw [up_p (by omega)]; exact h3.2.2.2 r hr⟩, h4.out (by omega)⟩, fun p hp => (up_off (by omega)).trans (o p hp)⟩
  refine wb (q1.num (by decide)) (fun v1 g1 => wm rfl c (by decide) (wsb ?_))
  refine wb ((g1.1.u30 (by omega)).num (by decide)) (fun v2 g2 => wm rfl c (by decide) (wsb ?_))
  refine wb ((g2.1.u30 (by omega)).num (by decide)) (fun v3 g3 => wm rfl c (by decide) (wsb ?_))
  exact wb ((g3.1.u30 (by omega)).fin) (fun s5 g5 => ws g5)
theorem W_tellTongue (hx : tg x1) (q : TQ s0 L s) : wp (T_tellTongue x1 s) (TQ s0 L) := by
  unfold T_tellTongue
  refine wb (q.num (by decide)) (fun v g => ?_)
  obtain ⟨g1, k, hk, e⟩ := g
  rw [e]
  have t : ∀ s', TQ s0 L s' → wp (T_tellTongue_26 x1 (nI k) s') (TQ s0 L) := fun s' q' => by
    unfold T_tellTongue_26
    refine wm rfl (by omega) (by decide) (wsb (wb ((q'.u33 hx).num (by decide)) (fun v1 g1 => wm rfl (by omega) (by decide) (wsb ?_))))
    exact wb ((g1.1.u30 (by omega)).fin) (fun s5 g5 => ws g5)
  exact wbB (W_hasTongue (by omega)) (t _ g1) (fun _ => wb (g1.fail (by decide) (by decide)) (fun s1 h1 => t _ h1))
theorem W_tellWall (q : TQ s0 L s) : wp (T_tellWall s) (TQ s0 L) := by
  unfold T_tellWall
  refine wb (q.num (by decide)) (fun v g => ?_)
  obtain ⟨g1, k, hk, e⟩ := g
  rw [e]
  have t : ∀ s', TQ s0 L s' → wp (T_tellWall_27 (nI k) s') (TQ s0 L) := fun s' q' => by
    unfold T_tellWall_27
    refine wsb (wb ((q'.u27 (by decide)).num (by decide)) (fun v1 g1 => wm rfl (by omega) (by decide) (wsb ?_)))
    exact wb ((g1.1.u30 (by omega)).fin) (fun s5 g5 => ws g5)
  exact wi (fun _ => wb (g1.fail (by decide) (by decide)) (fun s1 h1 => t _ h1)) (fun _ => t _ g1)
theorem W_refuse (q : TQ s0 L s) : wp (T_refuseNinth s) (TQ s0 L) := by
  unfold T_refuseNinth
  have t37 : ∀ y : Int32, wp (T_refuseNinth_37 y s) (TQ s0 L) := fun y => by
    unfold T_refuseNinth_37
    exact wb (q.fail (by decide) (by decide)) (fun s1 h1 => ws h1)
  have t : ∀ y z : Int32, wp (T_refuseNinth_26 y z s) (TQ s0 L) := fun y z => by
    unfold T_refuseNinth_26
    exact wi (fun _ => t37 _) (fun _ => wi (fun _ => t37 _) (fun _ => ws q))
  obtain ⟨b, e8, hb⟩ := q.1.2.2.2.bh
  have hL := q.1.2.1
  refine wb (W_placeOfNext hL q.1.1 e8 hb) (fun v g => ?_)
  obtain ⟨st, h1, h2, rfl⟩ := g
  rw [q.1.1]
  refine wi (fun c => ?_) (fun _ => t _ _)
  rw [nI_ltI (by omega) (by omega)] at c
  exact wm rfl (by omega) (by decide) (wb W_sortOf (fun v _ => t _ _))
theorem W_out27 : ∀ (n r fu : Nat) (s : sg), TQ s0 L s → r + n = 8 → n < fu → wp (T_tellOut_27 fu (nI r) s) (TQ s0 L)
  | n, r, 0, s, q, hr, hf => absurd hf (by omega)
  | n, r, fu + 1, s, q, hr, hf => by
    have t74 : wp (T_tellOut_74 s) (TQ s0 L) := by
      unfold T_tellOut_74
      exact wi (fun _ => ws q) (fun _ => wb (q.fail (by decide) (by decide)) (fun s1 h1 => ws h1))
    rw [T_tellOut_27]
    refine wi (fun c => wi (fun _ => ?_) (fun _ => t74)) (fun _ => t74)
    rw [nI_ltI (by omega) (by decide)] at c
    obtain ⟨n, rfl⟩ : ∃ m, n = m + 1 := ⟨n - 1, by omega⟩
    have t67 : ∀ s', TQ s0 L s' → wp (T_tellOut_67 (T_tellOut_27 fu) (nI r + nI 1) s') (TQ s0 L) := fun s' q' => by
      unfold T_tellOut_67
      rw [nI_add]
      exact wb q'.tok (fun s1 h1 => W_out27 n (r + 1) fu s1 h1 (by omega) (by omega))
    refine wb (W_tokenValue q.1.2.1 q.1.2.2.2) (fun v _ => wm rfl (by omega) (by decide) (wsb ?_))
    exact wi (fun _ => wb (W_refuse (q.u30 (by omega))) (fun s2 h2 => t67 _ h2)) (fun _ => t67 _ (q.u30 (by omega)))
theorem W_tellOut (q : TQ s0 L s) : wp (T_tellOut s) (TQ s0 L) := by
  unfold T_tellOut
  have t : ∀ s', TQ s0 L s' → wp (T_tellOut_16 s') (TQ s0 L) := fun s' q' => by
    unfold T_tellOut_16
    exact wsb (wb ((q'.u27 (by decide)).tok) (fun s2 h2 => W_out27 8 0 FU s2 h2 (by omega) (by decide)))
  exact wi (fun _ => t _ q) (fun _ => wb (q.fail (by decide) (by decide)) (fun s1 h1 => t _ h1))
theorem ro_le : (List.range 10).all (fun w => Nat.ble (roS w).length 5) = true := by decide +kernel
theorem W_named20 {w st bh : Nat} (hw : w < 10) (hL : L ≤ 160) (e7 : s 27 7 = nI st) (h2 : bh ≤ L) (hlen : st + (roS w).length = bh) : ∀ (n r fu : Nat), r + n = (roS w).length → n < fu → wp (T_isNamed_20 w s fu (nI r)) (yn True)
  | n, r, 0, hr, hf => absurd hf (by omega)
  | n, r, fu + 1, hr, hf => by
    have h5 : (roS w).length ≤ 5 := Nat.le_of_ble_eq_true (List.all_eq_true.mp ro_le w (List.mem_range.mpr hw))
    rw [T_isNamed_20, e7]
    refine wi (fun c => ?_) (fun _ => ws (Or.inr ⟨rfl, trivial⟩))
    rw [nI_ltI (by omega) (by omega)] at c
    obtain ⟨n, rfl⟩ : ∃ m, n = m + 1 := ⟨n - 1, by omega⟩
    refine wm (nI_add st r) (by omega) (by decide) (wm rfl c (by omega) (wi (fun _ => ?_) (fun _ => ws (Or.inl rfl))))
    rw [nI_add]
    exact W_named20 hw hL e7 h2 hlen n (r + 1) fu (by omega) (by omega)
theorem W_isNamed {w : Nat} (hw : w < 10) (q : TQ s0 L s) : wp (T_isNamed w s) (yn True) := by
  obtain ⟨st, bh, e7, e8, h1, h2, -⟩ := q.1.2.2.2
  have hL := q.1.2.1
  have h5 : (roS w).length ≤ 5 := Nat.le_of_ble_eq_true (List.all_eq_true.mp ro_le w (List.mem_range.mpr hw))
  unfold T_isNamed
  rw [e8, e7, sub_nI h1]
  refine wi (fun c => ?_) (fun _ => ws (Or.inl rfl))
  rw [nI_eq (by omega) (by omega)] at c
  exact W_named20 hw hL e7 h2 (by omega) (roS w).length 0 FU (by omega) (by show (roS w).length < 100000; omega)
theorem W_lineByName (q : TQ s0 L s) : wp (T_lineByName s) (fun v => v = nI 0 ∨ v = nI 1 ∨ v = nI 2 ∨ v = nI 3 ∨ v = nI 10 ∨ v = nI 11 ∨ v = nI 12 ∨ v = nI 13) := by
  unfold T_lineByName
  refine wbB (W_isNamed (by decide) q) ?_ (fun _ => ws (by simp))
  refine wbB (W_isNamed (by decide) q) ?_ (fun _ => ws (by simp))
  refine wbB (W_isNamed (by decide) q) ?_ (fun _ => ws (by simp))
  refine wbB (W_isNamed (by decide) q) ?_ (fun _ => ws (by simp))
  refine wbB (W_isNamed (by decide) q) ?_ (fun _ => ws (by simp))
  refine wbB (W_isNamed (by decide) q) ?_ (fun _ => ws (by simp))
  exact wbB (W_isNamed (by decide) q) (ws (by simp)) (fun _ => ws (by simp))
theorem W_tellLine (q : TQ s0 L s) : wp (T_tellLine s) (TQ s0 L) := by
  have t : ∀ y : Int32, (y = nI 0 ∨ y = nI 1 ∨ y = nI 2 ∨ y = nI 3 ∨ y = nI 10 ∨ y = nI 11 ∨ y = nI 12 ∨ y = nI 13) → wp (T_tellLine_17 y s) (TQ s0 L) := fun y hy => by
    unfold T_tellLine_17
    refine wi (fun _ => wb (W_tellRoom q) (fun s1 h1 => ws h1)) (fun a1 => wi (fun _ => wb (W_tellWall q) (fun s1 h1 => ws h1)) (fun a2 => wi (fun _ => wb (W_tellOut q) (fun s1 h1 => ws h1)) (fun a3 => wi (fun _ => wb (q.fail (by decide) (by decide)) (fun s1 h1 => ws h1)) (fun a4 => ?_))))
    refine wb (W_tellTongue ?_ q) (fun s1 h1 => ws h1)
    rcases hy with e | e | e | e | e | e | e | e
    · exact Or.inr ⟨0, by decide, e⟩
    · exact Or.inr ⟨1, by decide, e⟩
    · exact Or.inr ⟨2, by decide, e⟩
    · exact Or.inr ⟨3, by decide, e⟩
    · exact absurd e a1
    · exact absurd e a2
    · exact absurd e a3
    · exact absurd e a4
  unfold T_tellLine
  exact wi (fun _ => wb (W_lineByName q) (fun v hv => t v hv)) (fun _ => t _ (by simp))
theorem W_miss43 : ∀ (n r fu : Nat) (s : sg), TQ s0 L s → r + n = 5 → n < fu → wp (T_findMissing_43 fu (nI r) s) (TQ s0 L)
  | n, r, 0, s, q, hr, hf => absurd hf (by omega)
  | n, r, fu + 1, s, q, hr, hf => by
    rw [T_findMissing_43]
    refine wi (fun c => ?_) (fun _ => ws q)
    rw [nI_ltI (by omega) (by decide)] at c
    obtain ⟨n, rfl⟩ : ∃ m, n = m + 1 := ⟨n - 1, by omega⟩
    have k : ∀ s', TQ s0 L s' → wp (T_findMissing_43 fu (nI r + nI 1) s') (TQ s0 L) := fun s' q' => by
      rw [nI_add]; exact W_miss43 n (r + 1) fu s' q' (by omega) (by omega)
    obtain ⟨R, h3⟩ := q.1.2.2.1
    exact wi (fun _ => wbB (W_hasWall h3) (wb (q.fail (by decide) (by decide)) (fun s1 h1 => k _ h1)) (fun _ => k _ q)) (fun _ => k _ q)
theorem W_miss8 : ∀ (n r fu : Nat) (s : sg), TQ s0 L s → r + n = 6 → n < fu → wp (T_findMissing_8 fu (nI r) s) (TQ s0 L)
  | n, r, 0, s, q, hr, hf => absurd hf (by omega)
  | n, r, fu + 1, s, q, hr, hf => by
    rw [T_findMissing_8]
    refine wi (fun c => ?_) (fun _ => W_miss43 5 0 FU s q (by omega) (by decide))
    rw [nI_ltI (by omega) (by decide)] at c
    obtain ⟨n, rfl⟩ : ∃ m, n = m + 1 := ⟨n - 1, by omega⟩
    have k : ∀ s', TQ s0 L s' → wp (T_findMissing_8 fu (nI r + nI 1) s') (TQ s0 L) := fun s' q' => by
      rw [nI_add]; exact W_miss8 n (r + 1) fu s' q' (by omega) (by omega)
    exact wbB (W_hasTongue (by omega)) (k _ q) (fun _ => wb (q.fail (by decide) (by decide)) (fun s1 h1 => k _ h1))
theorem W_tell88 (q : TQ s0 L s) : wp (T_tell_88 s) (fun v => TQ s0 L v.2) := by
  unfold T_tell_88
  refine wb (P := TQ s0 L) ?_ (fun s1 h1 => wi (fun _ => ws h1) (fun _ => ws h1))
  unfold T_findMissing
  obtain ⟨R, h3⟩ := q.1.2.2.1
  have hR := h3.2.1
  rw [h3.1]
  exact W_miss8 (6 - R) R FU s q (by omega) (by show 6 - R < 100000; omega)
theorem W_tell43 : ∀ (n r fu : Nat) (s : sg), TQ s0 L s → r + n = 160 → n < fu → wp (T_tell_43 fu (nI r) s) (fun v => TQ s0 L v.2)
  | n, r, 0, s, q, hr, hf => absurd hf (by omega)
  | n, r, fu + 1, s, q, hr, hf => by
    rw [T_tell_43]
    refine wi (fun c => wi (fun _ => wi (fun _ => W_tell88 q) (fun _ => ?_)) (fun _ => W_tell88 q)) (fun _ => W_tell88 q)
    rw [nI_ltI (by omega) (by decide)] at c
    obtain ⟨n, rfl⟩ : ∃ m, n = m + 1 := ⟨n - 1, by omega⟩
    refine wb (W_tellLine q) (fun s1 h1 => wsb (wb ((h1.u27 (by decide)).tok) (fun s3 h3 => ?_)))
    rw [nI_add]
    exact W_tell43 n (r + 1) fu s3 h3 (by omega) (by omega)
theorem W_emp68 {b : Nat} : ∀ (n r fu : Nat) (s : sg), r + n = 8 → n < fu → wp (H_empty_68 b fu (nI r) s) (fun s' => ∀ p, p ≠ b + 7 → s' p = s p)
  | n, r, 0, s, hr, hf => absurd hf (by omega)
  | n, r, fu + 1, s, hr, hf => by
    rw [H_empty_68]
    refine wi (fun c => ?_) (fun _ => ws (fun _ _ => rfl))
    rw [nI_ltI (by omega) (by decide)] at c
    obtain ⟨n, rfl⟩ : ∃ m, n = m + 1 := ⟨n - 1, by omega⟩
    refine wm rfl (by omega) (by decide) (wsb ?_)
    rw [nI_add]
    exact wc (W_emp68 n (r + 1) fu _ (by omega) (by omega)) (fun a ha p hp => (ha p hp).trans (up_off hp))
theorem W_emp48 {b : Nat} : ∀ (n r fu : Nat) (s : sg), r + n = 5 → n < fu → wp (H_empty_48 b fu (nI r) s) (fun s' => ∀ p, p ≠ b + 7 → p ≠ b + 6 → s' p = s p)
  | n, r, 0, s, hr, hf => absurd hf (by omega)
  | n, r, fu + 1, s, hr, hf => by
    rw [H_empty_48]
    refine wi (fun c => ?_) (fun _ => wc (W_emp68 8 0 FU s (by omega) (by decide)) (fun a ha p hp _ => ha p hp))
    rw [nI_ltI (by omega) (by decide)] at c
    obtain ⟨n, rfl⟩ : ∃ m, n = m + 1 := ⟨n - 1, by omega⟩
    refine wm rfl (by omega) (by decide) (wsb ?_)
    rw [nI_add]
    exact wc (W_emp48 n (r + 1) fu _ (by omega) (by omega)) (fun a ha p hp hp2 => (ha p hp hp2).trans (up_off hp2))
theorem W_emp27 {b : Nat} : ∀ (n r fu : Nat) (s : sg), r + n = 6 → n < fu → (∀ i, i < r → s (b + 4) i = -1) → wp (H_empty_27 b fu (nI r) s) (fun s' => (∀ p, p ≠ b + 7 → p ≠ b + 6 → p ≠ b + 4 → s' p = s p) ∧ ∀ i, i < 6 → s' (b + 4) i = -1)
  | n, r, 0, s, hr, hf, ht => absurd hf (by omega)
  | n, r, fu + 1, s, hr, hf, ht => by
    rw [H_empty_27]
    refine wi (fun c => ?_) (fun c => wc (W_emp48 5 0 FU s (by omega) (by decide)) (fun a ha => ⟨fun p hp hp2 _ => ha p hp hp2, fun i hi => by rw [ha _ (by omega) (by omega)]; rw [nI_ltI (by omega) (by decide)] at c; exact ht i (by omega)⟩))
    rw [nI_ltI (by omega) (by decide)] at c
    obtain ⟨n, rfl⟩ : ∃ m, n = m + 1 := ⟨n - 1, by omega⟩
    refine wm rfl (by omega) (by decide) (wsb ?_)
    rw [nI_add]
    refine wc (W_emp27 n (r + 1) fu _ (by omega) (by omega) (fun i hi => ?_)) (fun a ha => ⟨fun p h1 h2 h3 => (ha.1 p h1 h2 h3).trans (up_off h3), ha.2⟩)
    by_cases e : i = r
    · subst e; exact up_eq
    · rw [up_k e]; exact ht i (by omega)
theorem W_empty {b : Nat} : wp (H_empty b s) (fun s' => HS s' b 0 0 ∧ offH b s s') := by
  unfold H_empty
  refine wsb (wsb (wsb (wsb (wsb (wc (W_emp27 6 0 FU _ (by omega) (by decide) (fun i hi => absurd hi (by omega))) (fun a ha => ⟨⟨?_, by omega, ?_, fun r hr => Or.inl (ha.2 r hr)⟩, fun p hp => ?_⟩))))))
  · rw [ha.1 _ (by omega) (by omega) (by omega), up_k (by decide), up_k (by decide), up_k (by decide), up_k (by decide), up_eq]
  · rw [ha.1 _ (by omega) (by omega) (by omega), up_k (by decide), up_k (by decide), up_eq]
  · rw [ha.1 _ (by omega) (by omega) (by omega), up_off (by omega), up_off (by omega), up_off (by omega), up_off (by omega), up_off (by omega)]
theorem W_T_tell (eL : s 27 1 = nI L) (hL : L ≤ 160) : wp (T_tell s) (fun v => TQ s L v.2) := by
  unfold T_tell
  refine wb W_empty (fun s1 h1 => wsb (wsb (wsb (wsb (wsb (wsb ?_))))))
  have e1 : s1 27 = s 27 := h1.2 27 (by decide)
  have key : ∀ s7, (∀ p, p ≠ 27 → s7 p = s1 p) → s7 27 1 = nI L → s7 27 8 = nI 0 → wp (T_nextToken s7) (TQ s L) := fun s7 k7 a1 a8 => by
    refine wc (W_nextToken hL a1 a8 (by omega)) (fun s8 g => ⟨⟨(g.1 27 1 (by omega)).trans a1, hL, ⟨0, h1.1.keep ?_ ?_ ?_⟩, g.2⟩, fun p hp => ?_⟩)
    · rw [g.1 29 0 (by omega), k7 29 (by decide)]
    · rw [g.1 29 2 (by omega), k7 29 (by decide)]
    · funext r; rw [g.1 33 r (by omega), k7 33 (by decide)]
    · rw [g.1.l p hp, k7 p (by omega), h1.2 p (by omega)]
  refine wb (key _ (fun p hp => ?_) ?_ ?_) (fun s8 h8 => W_tell43 160 0 FU s8 h8 (by omega) (by decide))
  · rw [up_off hp, up_off hp, up_off hp, up_off hp, up_off hp, up_off hp]
  · rw [up_k (by decide), up_k (by decide), up_k (by decide), up_k (by decide), up_k (by decide), up_k (by decide), e1]; exact eL
  · rw [up_k (by decide), up_k (by decide), up_eq]
end LINES
end Q47
section Q48
/-! feed, end, text of the class -/
section TEXT
variable {s : sg} {L : Nat} {x x1 : Int32}
theorem IC.f {s' : sg} (I : IC s) (h27 : ∃ L : Nat, L ≤ 160 ∧ s' 27 1 = nI L) (o : ∀ p, ¬ (p = 27 ∨ p = 28 ∨ (29 ≤ p ∧ p ≤ 36)) → s' p = s p) : IC s' ∧ ∀ k : Nat, k < 4 → s' (133 + 2 * k) = s (133 + 2 * k) := by
  obtain ⟨⟨R, h, hh, H⟩, i2, i3, -, i5⟩ := I
  refine ⟨⟨⟨R, h, hh, H.keep (by rw [o _ (by omega)]) (by rw [o _ (by omega)]) (o _ (by omega))⟩, fun k hk => ?_, ?_, h27, fun k hk => by rw [o _ (by omega)]; exact i5 k hk⟩, fun k hk => o _ (by omega)⟩
  · obtain ⟨R, h, hh, H⟩ := i2 k hk
    exact ⟨R, h, hh, H.keep (by rw [o _ (by omega)]) (by rw [o _ (by omega)]) (o _ (by omega))⟩
  · unfold FI
    rw [o 23 (by omega), o 24 (by omega), o 25 (by omega)]; exact i3
/-- what feed answers, and the length behind it -/
theorem W_C_feed (I : IC s) (hL : L ≤ 160) (eL : s 27 1 = nI L) : wp (C_feed x1 s) (fun v => IC v.2 ∧ (∀ k : Nat, k < 4 → v.2 (133 + 2 * k) = s (133 + 2 * k)) ∧
    ((¬ (¬ x1 < nI 0 ∧ ¬ nI 127 < x1) ∧ v.1 = -1 ∧ v.2 27 1 = nI L) ∨ ((¬ x1 < nI 0 ∧ ¬ nI 127 < x1) ∧ L = 160 ∧ v.1 = -3 ∧ v.2 27 1 = nI L) ∨ ((¬ x1 < nI 0 ∧ ¬ nI 127 < x1) ∧ L < 160 ∧ v.1 = nI (L + 1) ∧ v.2 27 1 = nI (L + 1)))) := by
  unfold C_feed C_within
  have bad : ¬ (¬ x1 < nI 0 ∧ ¬ nI 127 < x1) → wp (some ((-1 : Int32), s)) (fun v => IC v.2 ∧ (∀ k : Nat, k < 4 → v.2 (133 + 2 * k) = s (133 + 2 * k)) ∧
    ((¬ (¬ x1 < nI 0 ∧ ¬ nI 127 < x1) ∧ v.1 = -1 ∧ v.2 27 1 = nI L) ∨ ((¬ x1 < nI 0 ∧ ¬ nI 127 < x1) ∧ L = 160 ∧ v.1 = -3 ∧ v.2 27 1 = nI L) ∨ ((¬ x1 < nI 0 ∧ ¬ nI 127 < x1) ∧ L < 160 ∧ v.1 = nI (L + 1) ∧ v.2 27 1 = nI (L + 1)))) := fun q => ws ⟨I, fun _ _ => rfl, Or.inl ⟨q, rfl, eL⟩⟩
  by_cases c1 : x1 < nI 0
  · rw [if_pos c1]; exact bad (fun q => q.1 c1)
  · rw [if_neg c1]
    by_cases c2 : nI 127 < x1
    · rw [if_pos c2]; exact bad (fun q => q.2 c2)
    · rw [if_neg c2]
      refine wsb ?_
      rw [if_neg (show ¬ nI 1 = 0 by decide)]
      unfold T_put
      rw [eL]
      by_cases c3 : L < 160
      · rw [if_pos (by rw [nI_ltI (by omega) (by decide)]; exact c3)]
        refine wb (P := fun v => v = (nI 1, up (up s 28 L (vp_nar .byte x1.toInt8.toInt32)) 27 1 (nI (L + 1)))) ?_ (fun v hv => ?_)
        · refine wm rfl c3 (by decide) (wsb (wsb (ws ?_)))
          rw [up_p (by decide), eL, nI_add]
        · subst hv
          rw [if_neg (show ¬ nI 1 = 0 by decide)]
          have g := I.f (s' := up (up s 28 L (vp_nar .byte x1.toInt8.toInt32)) 27 1 (nI (L + 1))) ⟨L + 1, by omega, up_eq⟩ (fun p hp => by rw [up_off (by omega), up_off (by omega)])
          refine ws ⟨g.1, g.2, Or.inr (Or.inr ⟨⟨c1, c2⟩, c3, ?_, ?_⟩)⟩ <;> (dsimp only; exact up_eq)
      · rw [if_neg (by rw [nI_ltI (by omega) (by decide)]; exact c3)]
        refine wsb ?_
        rw [if_pos (show nI 0 = 0 from rfl)]
        exact ws ⟨I, fun _ _ => rfl, Or.inr (Or.inl ⟨⟨c1, c2⟩, by omega, rfl, eL⟩)⟩
theorem W_C_end (I : IC s) (hL : L ≤ 160) (eL : s 27 1 = nI L) : wp (C_end x1 s) (fun v => IC v.2 ∧ (∀ k : Nat, k < 4 → v.2 (133 + 2 * k) = s (133 + 2 * k)) ∧
    ((¬ (¬ x1 < nI 0 ∧ ¬ nI L < x1) ∧ v.1 = -1 ∧ v.2 27 1 = nI L) ∨ ((¬ x1 < nI 0 ∧ ¬ nI L < x1) ∧ v.1 = nI L ∧ v.2 27 1 = x1))) := by
  unfold C_end C_within
  rw [eL]
  have bad : ¬ (¬ x1 < nI 0 ∧ ¬ nI L < x1) → wp (some ((-1 : Int32), s)) (fun v => IC v.2 ∧ (∀ k : Nat, k < 4 → v.2 (133 + 2 * k) = s (133 + 2 * k)) ∧
    ((¬ (¬ x1 < nI 0 ∧ ¬ nI L < x1) ∧ v.1 = -1 ∧ v.2 27 1 = nI L) ∨ ((¬ x1 < nI 0 ∧ ¬ nI L < x1) ∧ v.1 = nI L ∧ v.2 27 1 = x1))) := fun q => ws ⟨I, fun _ _ => rfl, Or.inl ⟨q, rfl, eL⟩⟩
  by_cases c1 : x1 < nI 0
  · rw [if_pos c1]; exact bad (fun q => q.1 c1)
  · rw [if_neg c1]
    by_cases c2 : nI L < x1
    · rw [if_pos c2]; exact bad (fun q => q.2 c2)
    · rw [if_neg c2]
      refine wsb ?_
      rw [if_neg (show ¬ nI 1 = 0 by decide)]
      obtain ⟨a, -, ha, e⟩ := in_nI (by omega) ⟨c1, c2⟩ (by decide)
      have g := I.f (s' := up s 27 1 x1) ⟨a, by omega, by rw [up_eq]; exact e⟩ (fun p hp => up_off (by omega))
      refine wsb (ws ⟨g.1, g.2, Or.inr ⟨⟨c1, c2⟩, rfl, ?_⟩⟩)
      dsimp only
      exact up_eq
theorem W_text55 : ∀ (n r fu : Nat) (s : sg), r + n = 2 → n < fu → wp (C_text_55 fu (nI r) s) (fun v => ∀ p, p ≠ 20 → v.2 p = s p)
  | n, r, 0, s, hr, hf => absurd hf (by omega)
  | n, r, fu + 1, s, hr, hf => by
    rw [C_text_55]
    refine wi (fun c => ?_) (fun _ => ws (fun _ _ => rfl))
    rw [nI_ltI (by omega) (by decide)] at c
    obtain ⟨n, rfl⟩ : ∃ m, n = m + 1 := ⟨n - 1, by omega⟩
    refine wm rfl (by omega) (by decide) (wsb ?_)
    rw [nI_add]
    exact wc (W_text55 n (r + 1) fu _ (by omega) (by omega)) (fun a ha p hp => (ha p hp).trans (up_off hp))
theorem W_C_text (I : IC s) : wp (C_text s) (fun v => IC v.2 ∧ (∀ k : Nat, k < 4 → v.2 (133 + 2 * k) = s (133 + 2 * k)) ∧ v.2 27 1 = nI 0) := by
  obtain ⟨L, hL, eL⟩ := I.2.2.2.1
  unfold C_text
  refine wb (W_T_tell eL hL) (fun v hv => wsb ?_)
  have g := I.f (s' := up v.2 27 1 (nI 0)) ⟨0, by omega, up_eq⟩ (fun p hp => by rw [up_off (by omega), hv.2 p (by omega)])
  have e27 : up v.2 27 1 (nI 0) 27 1 = nI 0 := up_eq
  obtain ⟨R, hD⟩ := hv.1.2.2.1
  have hD' : HS (up v.2 27 1 (nI 0)) 29 R 0 := hD.keep (up_p (by decide)) (up_p (by decide)) (up_off (by decide))
  refine wi (fun _ => ws ⟨g.1, g.2, e27⟩) (fun _ => ?_)
  refine wb (W_copyFrom (b := 11) (c := 29) (Or.inl (by decide)) hD') (fun s2 h2 => wsb (wc (W_text55 2 0 FU _ (by omega) (by decide)) (fun w hw => ?_)))
  have g2 := g.1.n h2.2 ⟨R, 0, by omega, h2.1⟩
  obtain ⟨⟨⟨R', h', hh', H'⟩, i2, ⟨-, hF⟩, i4, i5⟩, sa⟩ := g2
  have o : ∀ p, p ≠ 20 → p ≠ 23 → w.2 p = s2 p := fun p h1 h2 => by rw [hw p h1, up_off h2]
  refine ⟨⟨⟨R', h', hh', H'.keep (by rw [o _ (by decide) (by decide)]) (by rw [o _ (by decide) (by decide)]) (o _ (by decide) (by decide))⟩, fun k hk => ?_, ⟨⟨0, by omega, ?_⟩, fun i hi => ?_⟩, by rw [o _ (by decide) (by decide)]; exact i4, fun k hk => by rw [o _ (by omega) (by omega)]; exact i5 k hk⟩, fun k hk => ?_, ?_⟩
  · obtain ⟨R, h, hh, H⟩ := i2 k hk
    exact ⟨R, h, hh, H.keep (by rw [o _ (by omega) (by omega)]) (by rw [o _ (by omega) (by omega)]) (o _ (by omega) (by omega))⟩
  · rw [hw 23 (by decide), up_eq]
  · rw [o 25 (by decide) (by decide), o 24 (by decide) (by decide)]; exact hF i hi
  · rw [o _ (by omega) (by omega), sa.2 k hk, g.2 k hk]
  · rw [o 27 (by decide) (by decide), sa.1, e27]
end TEXT
end Q48
