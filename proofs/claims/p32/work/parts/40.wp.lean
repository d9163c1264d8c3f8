/-! what comes out, and what holds of it -/
def wp {α : Type} (o : Option α) (Q : α → Prop) : Prop := ∃ a, o = some a ∧ Q a
theorem wb {α β : Type} {o : Option α} {f : α → Option β} {P : α → Prop} {Q : β → Prop} (h : wp o P) (k : ∀ a, P a → wp (f a) Q) : wp (o.bind f) Q := by
  obtain ⟨a, rfl, ha⟩ := h
  exact k a ha
theorem ws {α : Type} {a : α} {Q : α → Prop} (h : Q a) : wp (some a) Q := ⟨a, rfl, h⟩
theorem wsb {α β : Type} {a : α} {f : α → Option β} {Q : β → Prop} (k : wp (f a) Q) : wp ((some a).bind f) Q := k
theorem wi {α : Type} {c : Prop} [Decidable c] {a b : Option α} {Q : α → Prop} (h1 : c → wp a Q) (h2 : ¬ c → wp b Q) : wp (if c then a else b) Q := by
  by_cases h : c
  · rw [if_pos h]; exact h1 h
  · rw [if_neg h]; exact h2 h
theorem wc {α : Type} {o : Option α} {P Q : α → Prop} (h : wp o P) (k : ∀ a, P a → Q a) : wp o Q := by
  obtain ⟨a, e, ha⟩ := h
  exact ⟨a, e, k a ha⟩
theorem midx_nI {n N : Nat} (h : n < N) (hN : N < 2 ^ 31) : midx (nI n) N = some n := by
  have h1 : ¬ nI n < 0 := nI_pos (by omega)
  unfold midx
  rw [if_neg h1, nI_clamp (by omega), blt_of h]; rfl
theorem wm {β : Type} {x : Int32} {n j : Nat} {f : Nat → Option β} {Q : β → Prop} (hx : x = nI j) (hj : j < n) (hn : n < 2 ^ 31) (k : wp (f j) Q) : wp ((midx x n).bind f) Q := by
  rw [hx, midx_nI hj hn]; exact k
/-- a yes or no, and what a yes says -/
def yn (P : Prop) (v : Int32) : Prop := v = nI 0 ∨ (v = nI 1 ∧ P)
theorem wbB {β : Type} {o : Option Int32} {P : Prop} {a b : Option β} {Q : β → Prop} (h : wp o (yn P)) (k0 : wp a Q) (k1 : P → wp b Q) : wp (o.bind fun v => if v = 0 then a else b) Q := by
  obtain ⟨v, rfl, rfl | ⟨rfl, hP⟩⟩ := h
  · show wp (if nI 0 = 0 then a else b) Q
    rw [if_pos (show nI 0 = 0 from rfl)]; exact k0
  · show wp (if nI 1 = 0 then a else b) Q
    rw [if_neg (by decide)]; exact k1 hP
theorem up_eq {s : sg} {p k : Nat} {v : Int32} : up s p k v p k = v := if_pos ⟨rfl, rfl⟩
theorem up_p {s : sg} {p k q j : Nat} {v : Int32} (h : q ≠ p) : up s p k v q j = s q j := if_neg (fun w => h w.1)
theorem up_k {s : sg} {p k q j : Nat} {v : Int32} (h : j ≠ k) : up s p k v q j = s q j := if_neg (fun w => h w.2)
/-! houses: what the class's methods need of one to end -/
def tg (x : Int32) : Prop := x = -1 ∨ ∃ k : Nat, k < 4 ∧ x = nI k
def HS (s : sg) (b R h : Nat) : Prop := s b 0 = nI R ∧ R ≤ 6 ∧ s b 2 = nI h ∧ ∀ r, r < 6 → tg (s (b + 4) r)
def offH (b : Nat) (s s' : sg) : Prop := ∀ p, (p < b ∨ b + 7 < p) → s' p = s p
theorem offH.rf {b : Nat} {s : sg} : offH b s s := fun _ _ => rfl
theorem offH.tr {b : Nat} {s s' s'' : sg} (h1 : offH b s s') (h2 : offH b s' s'') : offH b s s'' := fun p hp => (h2 p hp).trans (h1 p hp)
theorem offH.up {b p k : Nat} {s : sg} {v : Int32} (h : b ≤ p ∧ p ≤ b + 7) : offH b s (up s p k v) := fun q hq => up_off (by omega)
theorem HS.keep {s s' : sg} {b R h : Nat} (H : HS s b R h) (h0 : s' b 0 = s b 0) (h2 : s' b 2 = s b 2) (h4 : s' (b + 4) = s (b + 4)) : HS s' b R h :=
  ⟨h0.trans H.1, H.2.1, h2.trans H.2.2.1, fun r hr => by rw [h4]; exact H.2.2.2 r hr⟩
section HOUSE
variable {s : sg} {b R h : Nat} {x x1 x2 lo hi : Int32}
theorem W_within : wp (C_within x lo hi s) (yn (¬ x < lo ∧ ¬ hi < x)) := by
  unfold C_within
  exact wi (fun _ => ws (Or.inl rfl)) (fun c => wi (fun _ => ws (Or.inl rfl)) (fun c2 => ws (Or.inr ⟨rfl, c, c2⟩)))
/-- within two small naturals -/
theorem in_nI {a c : Nat} (hc : c < 2 ^ 31) (h : ¬ x < nI a ∧ ¬ nI c < x) (ha : a < 2 ^ 31) : ∃ j, a ≤ j ∧ j ≤ c ∧ x = nI j := by
  have h0 : ¬ x < 0 := fun q => h.1 (by
    rw [Int32.lt_iff_toInt_lt] at q ⊢
    rw [nI_toInt ha]
    have e : (0 : Int32).toInt = 0 := rfl
    rw [e] at q
    omega)
  obtain ⟨j, hj, rfl⟩ := nI_of h0
  rw [nI_ltI hj ha, nI_ltI hc hj] at h
  exact ⟨j, by omega, by omega, rfl⟩
theorem W_hasRoom (H : HS s b R h) : wp (H_hasRoom b x s) (yn (∃ j, j < R ∧ x = nI j)) := by
  unfold H_hasRoom
  refine wi (fun c => ws (Or.inl rfl)) (fun c => wi (fun c2 => ws (Or.inr ⟨rfl, ?_⟩)) (fun _ => ws (Or.inl rfl)))
  obtain ⟨j, hj, rfl⟩ := nI_of c
  rw [H.1, nI_ltI hj (by have := H.2.1; omega)] at c2
  exact ⟨j, c2, rfl⟩
theorem nI_m1 {n : Nat} (h : n < 2 ^ 30) {j : Nat} (hj : j < 2 ^ 31) : (nI j < nI n - nI 1) ↔ j + 1 < n := by
  rw [Int32.lt_iff_toInt_lt, pk_sub_toInt h (by decide), nI_toInt hj]
  omega
theorem W_hasWall (H : HS s b R h) : wp (H_hasWall b x s) (yn (∃ j, j + 1 < R ∧ x = nI j)) := by
  unfold H_hasWall
  refine wi (fun c => ws (Or.inl rfl)) (fun c => wi (fun c2 => ws (Or.inr ⟨rfl, ?_⟩)) (fun _ => ws (Or.inl rfl)))
  obtain ⟨j, hj, rfl⟩ := nI_of c
  rw [H.1, nI_m1 (by have := H.2.1; omega) hj] at c2
  exact ⟨j, c2, rfl⟩
theorem W_hasTongue {j : Nat} (hj : j < 6) : wp (H_hasTongue b (nI j) s) (yn (¬ s (b + 4) j = -1)) := by
  unfold H_hasTongue
  exact wm rfl hj (by decide) (wi (fun _ => ws (Or.inl rfl)) (fun c => ws (Or.inr ⟨rfl, c⟩)))
theorem W_isOn : wp (H_isOn b x s) (yn True) := by
  unfold H_isOn
  exact wi (fun _ => ws (Or.inr ⟨rfl, trivial⟩)) (fun c => ws (Or.inl rfl))
theorem W_lowOf (H : HS s b R h) {j : Nat} (hj : j < 6) (ht : ¬ s (b + 4) j = -1) : wp (H_lowOf b (nI j) s) (fun _ => True) := by
  unfold H_lowOf
  refine wm rfl hj (by decide) (wm rfl hj (by decide) ?_)
  rcases H.2.2.2 j hj with q | ⟨k, hk, q⟩
  · exact absurd q ht
  · exact wm q hk (by decide) (ws trivial)
theorem W_highOf (H : HS s b R h) {j : Nat} (hj : j < 6) (ht : ¬ s (b + 4) j = -1) : wp (H_highOf b (nI j) s) (fun _ => True) := by
  unfold H_highOf
  refine wm rfl hj (by decide) (wm rfl hj (by decide) ?_)
  rcases H.2.2.2 j hj with q | ⟨k, hk, q⟩
  · exact absurd q ht
  · exact wm q hk (by decide) (ws trivial)
def swOff (b : Nat) (s s' : sg) : Prop := ∀ p k, ¬ (p = b ∧ (k = 1 ∨ k = 4)) → s' p k = s p k
theorem swOff.hs {s s' : sg} (H : HS s b R h) (o : swOff b s s') : HS s' b R h :=
  H.keep (o b 0 (by omega)) (o b 2 (by omega)) (by funext r; exact o (b + 4) r (by omega))
theorem W_sw : ∀ (n r fu : Nat) (s : sg), HS s b R h → r + n = R → n < fu → wp (H_switchAll_2 b fu (nI r) s) (swOff b s)
  | n, r, 0, s, H, hr, hf => absurd hf (by omega)
  | n, r, fu + 1, s, H, hr, hf => by
    have hR := H.2.1
    rw [H_switchAll_2, H.1]
    refine wi (fun c => ?_) (fun c => ws (fun _ _ _ => rfl))
    rw [nI_ltI (by omega) (by omega)] at c
    obtain ⟨n, rfl⟩ : ∃ m, n = m + 1 := ⟨n - 1, by omega⟩
    have e1 : nI r + nI 1 = nI (r + 1) := nI_add r 1
    have next : ∀ s', swOff b s s' → wp (H_switchAll_2 b fu (nI r + nI 1) s') (swOff b s) := fun s' o => by
      rw [e1]
      exact wc (W_sw n (r + 1) fu s' (o.hs H) (by omega) (by omega)) (fun a ha p k hp => (ha p k hp).trans (o p k hp))
    have turn : ∀ y : Int32, wp (H_switchAll_67 (H_switchAll_2 b fu) b (nI r) y s) (swOff b s) := fun y => by
      unfold H_switchAll_67
      refine wi (fun _ => next s (fun _ _ _ => rfl)) (fun _ => wsb (wsb (next _ (fun p k hp => ?_))))
      rw [up, if_neg (fun w => hp ⟨w.1, Or.inr w.2⟩), up, if_neg (fun w => hp ⟨w.1, Or.inl w.2⟩)]
    refine wbB (W_hasTongue (by omega)) (next s (fun _ _ _ => rfl)) (fun ht => ?_)
    refine wbB W_isOn ?_ (fun _ => ?_)
    · refine wm rfl (by omega) (by decide) (wb (W_lowOf H (by omega) ht) (fun v _ => ?_))
      exact wi (fun _ => turn _) (fun _ => turn _)
    · refine wm rfl (by omega) (by decide) (wb (W_highOf H (by omega) ht) (fun v _ => ?_))
      exact wi (fun _ => turn _) (fun _ => turn _)
theorem W_switchAll (H : HS s b R h) : wp (H_switchAll b s) (swOff b s) := by
  unfold H_switchAll
  exact W_sw R 0 FU s H (by omega) (by have := H.2.1; show R < 100000; omega)
/-- the house b stands as it stood, but its numbers -/
def hrOff (b : Nat) (s s' : sg) : Prop := (∀ p k, ¬ ((p = b ∧ k = 3) ∨ p = b + 1) → s' p k = s p k)
theorem hrOff.hs {s s' : sg} (H : HS s b R h) (o : hrOff b s s') : HS s' b R h :=
  H.keep (o b 0 (by omega)) (o b 2 (by omega)) (by funext r; exact o (b + 4) r (by omega))
theorem hrOff.off {s s' : sg} (o : hrOff b s s') : offH b s s' := fun p hp => by funext k; exact o p k (by omega)
theorem swOff.off {s s' : sg} (o : swOff b s s') : offH b s s' := fun p hp => by funext k; exact o p k (by omega)
theorem W_burn {j : Nat} (hj : j < 6) : wp (H_burn b (nI j) s) (fun v => hrOff b s v.2) := by
  unfold H_burn
  refine wsb (wm rfl hj (by decide) (ws (fun p k hp => ?_)))
  show up s b 3 _ p k = s p k
  rw [up, if_neg (fun w => hp (Or.inl w))]
theorem W_hr : ∀ (n r fu : Nat) (s : sg) (x3 : Int32), HS s b R h → r + n = R → n < fu → wp (H_passHourBy_9 b x1 x2 fu x3 (nI r) s) (fun s' => HS s' b R (h + 1) ∧ offH b s s')
  | n, r, 0, s, x3, H, hr, hf => absurd hf (by omega)
  | n, r, fu + 1, s, x3, H, hr, hf => by
    have hR := H.2.1
    rw [H_passHourBy_9, H.1]
    have e1 : nI r + nI 1 = nI (r + 1) := nI_add r 1
    refine wi (fun c => ?_) (fun c => wsb (ws ⟨⟨?_, hR, ?_, fun q hq => ?_⟩, offH.up ⟨by omega, by omega⟩⟩))
    · rw [nI_ltI (by omega) (by omega)] at c
      obtain ⟨n, rfl⟩ : ∃ m, n = m + 1 := ⟨n - 1, by omega⟩
      have go : ∀ (s' : sg) (w : Int32), hrOff b s s' → wp (H_passHourBy_9 b x1 x2 fu w (nI r + nI 1) s') (fun s' => HS s' b R (h + 1) ∧ offH b s s') := fun s' w o => by
        rw [e1]
        exact wc (W_hr n (r + 1) fu s' w (o.hs H) (by omega) (by omega)) (fun a ha => ⟨ha.1, o.off.tr ha.2⟩)
      have t106 : ∀ (w5 w6 w0 : Int32) (s' : sg), hrOff b s s' → wp (H_passHourBy_106 (H_passHourBy_9 b x1 x2 fu) b x1 x2 x3 (nI r) w5 w6 w0 s') (fun s' => HS s' b R (h + 1) ∧ offH b s s') := fun w5 w6 w0 s' o => by
        unfold H_passHourBy_106
        refine wm rfl (by omega) (by decide) (wm rfl (by omega) (by decide) (wsb (go _ _ (fun p k hp => ?_))))
        rw [up, if_neg (fun w => hp (Or.inr w.1))]
        exact o p k hp
      have t59 : ∀ w0 : Int32, wp (H_passHourBy_59 (H_passHourBy_9 b x1 x2 fu) b x1 x2 x3 (nI r) w0 s) (fun s' => HS s' b R (h + 1) ∧ offH b s s') := fun w0 => by
        unfold H_passHourBy_59 H_passHourBy_105
        refine wm rfl (by omega) (by decide) (wm rfl (by omega) (by decide) (wbB W_isOn (t106 _ _ _ _ (fun _ _ _ => rfl)) (fun _ => wi (fun _ => ?_) (fun _ => t106 _ _ _ _ (fun _ _ _ => rfl)))))
        exact wb (W_burn (by omega)) (fun v hv => t106 _ _ _ _ hv)
      refine wbB (W_hasWall H) (t59 _) (fun q => ?_)
      obtain ⟨j, hj, ej⟩ := q
      have ej : r = j := (nI_eq (by omega) (by omega)).mp ej
      subst ej
      exact wm rfl (by omega) (by decide) (wm rfl (by omega) (by decide) (wm e1 (by omega) (by decide) (t59 _)))
    · rw [up_k (by omega)]; exact H.1
    · rw [up_eq, H.2.2.1]; exact nI_add h 1
    · rw [up_p (by omega)]; exact H.2.2.2 q hq
theorem W_passHourBy (H : HS s b R h) : wp (H_passHourBy b x1 x2 s) (fun s' => HS s' b R (h + 1) ∧ offH b s s') := by
  unfold H_passHourBy
  refine wb (W_switchAll H) (fun s1 o => wc (W_hr R 0 FU s1 (nI 0) (o.hs H) (by omega) (by have := H.2.1; show R < 100000; omega)) (fun a ha => ⟨ha.1, o.off.tr ha.2⟩))
theorem rem8 {h : Nat} (hh : h < 2 ^ 30) : nI h - nI h / nI 8 * nI 8 = nI (h % 8) := pk_rem (by omega) (by decide) (by decide)
theorem W_skyNow (H : HS s b R h) (hh : h < 2 ^ 30) : wp (H_skyNow b s) (fun _ => True) := by
  unfold H_skyNow
  rw [H.2.2.1, rem8 hh]
  exact wm rfl (Nat.mod_lt _ (by decide)) (by decide) (ws trivial)
theorem W_passHour (H : HS s b R h) (hh : h < 2 ^ 30) : wp (H_passHour b s) (fun s' => HS s' b R (h + 1) ∧ offH b s s') := by
  unfold H_passHour
  exact wb (W_skyNow H hh) (fun v _ => wb (W_passHourBy H) (fun s1 h1 => ws h1))
end HOUSE
