/-! the fuse -/
def offD (d : Nat) (s s' : sg) : Prop := ∀ p, ¬ (53 + 8 * (d + 1) ≤ p ∧ p ≤ 132) → s' p = s p
theorem offD.rf {d : Nat} {s : sg} : offD d s s := fun _ _ => rfl
theorem offD.tr {d : Nat} {s s' s'' : sg} (h1 : offD d s s') (h2 : offD d s' s'') : offD d s s'' := fun p hp => (h2 p hp).trans (h1 p hp)
theorem offD.le {d e : Nat} {s s' : sg} (h : offD e s s') (hd : d ≤ e) : offD d s s' := fun p hp => h p (by omega)
theorem offD.t {d : Nat} {s s' : sg} (h : offD d s s') : offT s s' := fun p hp => h p (by omega)
theorem offH.d {s s' : sg} {d : Nat} (o : offH (53 + 8 * (d + 1)) s s') (hd : d < 9) : offD d s s' := fun p hp => o p (by omega)
theorem HS.d {s s' : sg} {d R h : Nat} (H : HS s (53 + 8 * d) R h) (o : offD d s s') : HS s' (53 + 8 * d) R h :=
  H.keep (by rw [o _ (by omega)]) (by rw [o _ (by omega)]) (o _ (by omega))
section FUSE
variable {s : sg} {R : Nat} {x x1 x2 x3 x4 x5 : Int32}
theorem W_outcome {b h : Nat} (H : HS s b R h) : wp (C_outcome b x2 x3 s) (fun _ => True) := by
  unfold C_outcome
  refine wbB (W_hasRoom H) (ws trivial) (fun q => ?_)
  obtain ⟨j, hj, rfl⟩ := q
  have hR := H.2.1
  exact wm rfl (by omega) (by decide) (wi (fun _ => ws trivial) (fun _ => ws trivial))
theorem W_w39 {n d h : Nat} {kr : Int32 → Int32 → Int32 → Int32 → Int32 → sg → Option (Int64 × sg)} {s0 : sg} (hd : d < n) (hn : n ≤ 8) (hh : h < 2 ^ 29) (H0 : HS s0 (53 + 8 * d) R h)
    (hk : ∀ s, HS s (53 + 8 * (d + 1)) R (h + 1) → wp (kr (nI d + nI 1) (nI n) x3 x4 x5 s) (fun v => offD (d + 1) s v.2)) : ∀ (m q fu : Nat) (s : sg) (x7 : Int64), offD d s0 s → q + m = 2 → m < fu → wp (C_weighed_39 kr (nI d) (nI n) x3 x4 x5 (53 + 8 * d) fu x7 (nI q) s) (fun v => offD d s0 v.2)
  | m, q, 0, s, x7, o, hr, hf => absurd hf (by omega)
  | m, q, fu + 1, s, x7, o, hr, hf => by
    have H : HS s (53 + 8 * d) R h := H0.d o
    rw [C_weighed_39]
    refine wi (fun c => ws o) (fun c => ?_)
    rw [nI_ltI (by decide) (by omega)] at c
    obtain ⟨m, rfl⟩ : ∃ k, m = k + 1 := ⟨m - 1, by omega⟩
    have nx : ∀ (y7 : Int64) (s' : sg), offD d s0 s' → wp (C_weighed_39 kr (nI d) (nI n) x3 x4 x5 (53 + 8 * d) fu y7 (nI q + nI 1) s') (fun v => offD d s0 v.2) := fun y7 s' o' => by
      rw [nI_add]; exact W_w39 hd hn hh H0 hk m (q + 1) fu s' y7 o' (by omega) (by omega)
    have w59 : ∀ y0 : Int32, wp (C_weighed_59 kr (C_weighed_39 kr (nI d) (nI n) x3 x4 x5 (53 + 8 * d) fu) (nI d) (nI n) x3 x4 x5 (53 + 8 * d) x7 (nI q) y0 s) (fun v => offD d s0 v.2) := fun y0 => by
      unfold C_weighed_59
      refine wi (fun _ => wm (nI_add d 1) (by omega) (by decide) (wb (W_copyFrom (b := 53 + 8 * (d + 1)) (c := 53 + 8 * d) (Or.inr (by omega)) H) (fun s1 h1 => wb (W_skyNow h1.1 (by omega)) (fun v2 _ => ?_)))) (fun _ => nx _ _ o)
      have w101 : ∀ z0 : Int32, wp (C_weighed_101 kr (C_weighed_39 kr (nI d) (nI n) x3 x4 x5 (53 + 8 * d) fu) (nI d) (nI n) x3 x4 x5 (53 + 8 * d) x7 (nI q) y0 z0 v2 (53 + 8 * (d + 1)) s1) (fun v => offD d s0 v.2) := fun z0 => by
        unfold C_weighed_101
        refine wb (W_passHourBy h1.1) (fun s2 h2 => wb (hk s2 h2.1) (fun v hv => nx _ _ ?_))
        exact ((o.tr (h1.2.d (by omega))).tr (h2.2.d (by omega))).tr (hv.le (by omega))
      exact wi (fun _ => w101 _) (fun _ => w101 _)
    exact wi (fun _ => w59 _) (fun _ => w59 _)
theorem W_weighed {n : Nat} (hn : n ≤ 8) : ∀ (dp d h : Nat) (s : sg), d ≤ n → n - d < dp → h + (n - d) < 2 ^ 29 → HS s (53 + 8 * d) R h → wp (C_weighed dp (nI d) (nI n) x3 x4 x5 s) (fun v => offD d s v.2)
  | 0, d, h, s, hd, hp, hh, H => absurd hp (by omega)
  | dp + 1, d, h, s, hd, hp, hh, H => by
    rw [C_weighed]
    have w21 : wp (C_weighed_21 (C_weighed dp) x4 x5 (53 + 8 * d) s) (fun v => offD d s v.2) := by
      unfold C_weighed_21
      exact wb (W_outcome H) (fun _ _ => ws offD.rf)
    refine wm rfl (by omega) (by decide) (wi (fun c => wi (fun _ => ?_) (fun _ => w21)) (fun _ => w21))
    rw [nI_ltI (by omega) (by omega)] at c
    refine W_w39 c hn (by omega) H (fun s' H' => ?_) 2 0 FU s _ offD.rf (by omega) (by decide)
    rw [nI_add]
    exact W_weighed hn dp (d + 1) (h + 1) s' (by omega) (by omega) (by omega) H'
theorem W_ten4 {N : Nat} (hN : N < 1000) : ∀ (n r fu : Nat) (x1 : Int64), r + n = N → n < fu → wp (C_tenTo_4 (nI N) s fu x1 (nI r)) (fun _ => True)
  | n, r, 0, x1, hr, hf => absurd hf (by omega)
  | n, r, fu + 1, x1, hr, hf => by
    rw [C_tenTo_4]
    refine wi (fun c => ?_) (fun c => ws trivial)
    rw [nI_ltI (by omega) (by omega)] at c
    obtain ⟨n, rfl⟩ : ∃ m, n = m + 1 := ⟨n - 1, by omega⟩
    rw [nI_add]
    exact W_ten4 hN n (r + 1) fu _ (by omega) (by omega)
theorem W_tenTo {N : Nat} (hN : N < 1000) : wp (C_tenTo (nI N) s) (fun _ => True) := by
  unfold C_tenTo
  exact W_ten4 hN N 0 FU _ (by omega) (by show N < 100000; omega)
theorem W_cd33 {u : Int64} : wp (C_commonDivisor_33 u s) (fun v => ¬ v = 0) := by
  unfold C_commonDivisor_33
  refine ws (fun q => ?_)
  by_cases c : (1 : Int64) < u
  · rw [if_pos c] at q
    rw [q] at c
    exact absurd c (by decide)
  · rw [if_neg c] at q
    exact absurd q (by decide)
theorem W_cd3 : ∀ (n r fu : Nat) (u w : Int64), r + n = 200 → n < fu → wp (C_commonDivisor_3 s fu u w (nI r)) (fun v => ¬ v = 0)
  | n, r, 0, u, w, hr, hf => absurd hf (by omega)
  | n, r, fu + 1, u, w, hr, hf => by
    rw [C_commonDivisor_3]
    refine wi (fun c => wi (fun _ => W_cd33) (fun c2 => wi (fun c3 => absurd c3 c2) (fun _ => ?_))) (fun c => W_cd33)
    rw [nI_ltI (by omega) (by decide)] at c
    obtain ⟨n, rfl⟩ : ∃ m, n = m + 1 := ⟨n - 1, by omega⟩
    rw [nI_add]
    exact W_cd3 n (r + 1) fu _ _ (by omega) (by omega)
theorem W_ofFraction {u w : Int64} : wp (C_ofFraction u w x4 s) (fun _ => True) := by
  unfold C_ofFraction
  refine wb (P := fun v => ¬ v = 0) ?_ (fun v hv => wi (fun _ => wi (fun c => absurd c hv) (fun _ => ws trivial)) (fun _ => wi (fun c => absurd c hv) (fun _ => ws trivial)))
  unfold C_commonDivisor
  exact W_cd3 200 0 FU _ _ (by omega) (by decide)
theorem W_fuse : wp (C_fuseIsAsTold x1 x2 x3 s) (yn (∃ j, j ≤ 8 ∧ x2 = nI j)) := by
  unfold C_fuseIsAsTold
  refine wbB W_within (ws (Or.inl rfl)) (fun _ => wbB W_within (ws (Or.inl rfl)) (fun q => wbB W_within (ws (Or.inl rfl)) (fun _ => ws (Or.inr ⟨rfl, ?_⟩))))
  obtain ⟨N, -, hN, e⟩ := in_nI (by decide) q (by decide)
  exact ⟨N, hN, e⟩
theorem W_C_luck {h : Nat} (H : HS s 11 R h) (hh : h ≤ 999) : wp (C_luck x1 x2 x3 x4 x5 s) (fun v => offT s v.2) := by
  unfold C_luck
  refine wbB W_fuse (ws offT.rf) (fun q => wbB (W_hasRoom H) (ws offT.rf) (fun _ => wbB W_within (ws offT.rf) (fun _ => ?_)))
  obtain ⟨n, hn, rfl⟩ := q
  refine wb (W_copyFrom (b := 53) (c := 11) (Or.inr (by decide)) H) (fun s1 h1 => wb (W_weighed hn 10 0 h s1 (by omega) (by omega) (by omega) h1.1) (fun v hv => wb (W_tenTo (by omega)) (fun v6 _ => wb W_ofFraction (fun v7 _ => ws ?_))))
  exact (h1.2.t (by decide) (by decide)).tr hv.t
theorem W_C_mean {h : Nat} (H : HS s 11 R h) (hh : h ≤ 999) : wp (C_mean x1 x2 x3 s) (fun v => offT s v.2) := by
  unfold C_mean
  refine wbB W_fuse (ws offT.rf) (fun q => ?_)
  obtain ⟨n, hn, rfl⟩ := q
  refine wb (W_copyFrom (b := 53) (c := 11) (Or.inr (by decide)) H) (fun s1 h1 => wb (W_weighed hn 10 0 h s1 (by omega) (by omega) (by omega) h1.1) (fun v hv => wb (W_tenTo (by omega)) (fun v6 _ => wb W_ofFraction (fun v7 _ => ws ?_))))
  exact (h1.2.t (by decide) (by decide)).tr hv.t
end FUSE
