/-! plain answers, by both -/
def smN (f : Nat → Int32) : Nat → Nat → Int32 → Int32
  | 0, _, a => a
  | n + 1, r, a => smN f n (r + 1) (a + f r)
theorem smN_e {f g : Nat → Int32} : ∀ (n r : Nat) (a : Int32), (∀ i, r ≤ i → i < r + n → f i = g i) → smN f n r a = smN g n r a
  | 0, r, a, h => rfl
  | n + 1, r, a, h => by
    rw [smN, smN, h r (Nat.le_refl _) (by omega)]
    exact smN_e n (r + 1) _ (fun i h1 h2 => h i (by omega) (by omega))
section PLAIN2
variable {s t : sg} {b R p : Nat} {g : Nat → Int32} {x x1 x2 x3 x4 : Int32}
theorem X_sum {K m : Nat} (hK : K ≤ m) (hm : m < 1000) : ∀ (n r fu : Nat) (a : Int32), r + n = K → n < fu → C_sumOf_4 p m (nI K) s fu a (nI r) = some (smN (s p) n r a)
  | n, r, 0, a, hr, hf => absurd hf (by omega)
  | n, r, fu + 1, a, hr, hf => by
    rw [C_sumOf_4]
    by_cases c : r < K
    · obtain ⟨n, rfl⟩ : ∃ k, n = k + 1 := ⟨n - 1, by omega⟩
      rw [if_pos ((nI_ltI (by omega) (by omega)).mpr c), if_pos ((nI_ltI (by omega) (by omega)).mpr (by omega)), midx_nI (by omega) (by omega)]
      show C_sumOf_4 p m (nI K) s fu (a + s p r) (nI r + nI 1) = _
      rw [nI_add, smN]
      exact X_sum hK hm n (r + 1) fu _ (by omega) (by omega)
    · obtain rfl : n = 0 := by omega
      rw [if_neg (fun z => c ((nI_ltI (by omega) (by omega)).mp z))]; rfl
theorem X_sumOf {K m : Nat} (hK : K ≤ m) (hm : m < 1000) : C_sumOf p m (nI K) s = some (smN (s p) K 0 (nI 0)) := by
  unfold C_sumOf
  exact X_sum hK hm K 0 FU _ (by omega) (by show K < 100000; omega)
theorem Y_warm (e : t 10 1 = nI R) (hR : R ≤ 6) (hp : p + 52 ≤ 312) : ∀ (n r fu : Nat) (a : Int32), r + n = R → n < fu → M_warmthOn_4 (nI p) t fu a (nI r) = some (smN (pg t p) n r a)
  | n, r, 0, a, hr, hf => absurd hf (by omega)
  | n, r, fu + 1, a, hr, hf => by
    rw [M_warmthOn_4, e]
    by_cases c : r < R
    · obtain ⟨n, rfl⟩ : ∃ k, n = k + 1 := ⟨n - 1, by omega⟩
      rw [if_pos ((nI_ltI (by omega) (by omega)).mpr c), nI_add, midx_nI (by omega) (by decide), nI_add]
      exact Y_warm e hR hp n (r + 1) fu _ (by omega) (by omega)
    · obtain rfl : n = 0 := by omega
      rw [if_neg (fun z => c ((nI_ltI (by omega) (by omega)).mp z))]; rfl
theorem Y_warmthOn (e : t 10 1 = nI R) (hR : R ≤ 6) (hp : p + 52 ≤ 312) : M_warmthOn (nI p) t = some (smN (pg t p) R 0 (nI 0)) := by
  unfold M_warmthOn
  exact Y_warm e hR hp R 0 FU _ (by omega) (by show R < 100000; omega)
theorem warm_eq (H : HR s b g R) : H_warmthOfAll b s = some (smN g R 0 (nI 0)) := by
  have h6 := H.r6
  unfold H_warmthOfAll
  rw [H.rm, X_sumOf h6 (by decide)]
  show some _ = some _
  rw [smN_e R 0 (nI 0) (fun i _ h2 => H.w (by omega))]
theorem or_b : ∀ m : Nat, m < 64 → ∀ r : Nat, r < 6 → (nI (m % 2 ^ r) ||| (nI (m / 2 ^ r % 2) <<< (nI r &&& 31))) = nI (m % 2 ^ (r + 1)) := by decide +kernel
theorem Y_on {m : Nat} (e : t 10 1 = nI R) (hR : R ≤ 6) (hp : p + 52 ≤ 312) (hm : m < 64) (hb : ∀ r, r < R → pg t p (30 + r) = nI (m / 2 ^ r % 2)) : ∀ (n r fu : Nat), r + n = R → n < fu → M_onOn_4 (nI p) t fu (nI (m % 2 ^ r)) (nI r) = some (nI (m % 2 ^ R))
  | n, r, 0, hr, hf => absurd hf (by omega)
  | n, r, fu + 1, hr, hf => by
    rw [M_onOn_4, e]
    by_cases c : r < R
    · obtain ⟨n, rfl⟩ : ∃ k, n = k + 1 := ⟨n - 1, by omega⟩
      rw [if_pos ((nI_ltI (by omega) (by omega)).mpr c), ix3, midx_nI (by omega) (by decide), nI_add]
      show M_onOn_4 (nI p) t fu (nI (m % 2 ^ r) ||| (pg t p (30 + r) <<< (nI r &&& 31))) (nI (r + 1)) = _
      rw [hb r c, or_b m hm r (by omega)]
      exact Y_on e hR hp hm hb n (r + 1) fu (by omega) (by omega)
    · obtain rfl : n = 0 := by omega
      obtain rfl : r = R := by omega
      rw [if_neg (fun z => c ((nI_ltI (by omega) (by omega)).mp z))]
theorem onOn_eq (H : HR s b (pg t p) R) (e : t 10 1 = nI R) (hp : p + 52 ≤ 312) : M_onOn (nI p) t = some (s b 1) := by
  have h6 := H.r6
  obtain ⟨m, h1, h2, h3⟩ := H.on
  have hm := p64 h6 h1
  unfold M_onOn
  have h := Y_on (t := t) (p := p) e h6 hp hm h3 R 0 FU (by omega) (by show R < 100000; omega)
  rw [show m % 2 ^ 0 = 0 by rw [Nat.pow_zero, Nat.mod_one], Nat.mod_eq_of_lt h1] at h
  rw [h2]; exact h
def JE (u w : Int32) : Prop := u = w
theorem J_rule (F : RF s t) : w2 (C_rule x1 s) (M_rule x1 t) (fun u w => u = w) := by
  obtain ⟨⟨R, G⟩, I, M⟩ := F
  have H := G.h
  have h6 := H.r6
  obtain ⟨R', h, hh, Hs⟩ := I.1
  have e9 := G.hh Hs
  unfold C_rule M_rule
  refine w2i (fun _ => w2s (H.rm.trans G.r.symm)) (fun _ => w2i (fun _ => ?_) (fun _ => w2i (fun _ => ?_) (fun _ => w2i (fun _ => ?_) (fun _ => w2i (fun _ => ?_) (fun _ => w2i (fun _ => ?_) (fun _ => w2i (fun _ => ?_) (fun _ => w2s rfl)))))))
  · refine w2r rfl (by decide) (by decide) (w2s ?_)
    rw [H.hr, pg0]
  · refine w2r rfl (by decide) (by decide) (w2s ?_)
    rw [H.bu.1, pg0]
  · refine w2r rfl (by decide) (by decide) (w2s ?_)
    rw [H.sw.1, pg0]
  · rw [warm_eq H, Y_warmthOn G.r h6 (by decide)]
    exact w2s rfl
  · rw [onOn_eq H G.r (by decide)]
    exact w2s rfl
  · rw [skyNow_eq H e9 (by omega), outOn_eq (by decide) e9 (by omega)]
    exact w2s rfl
theorem J_room (F : RF s t) : w2 (C_room x1 x2 s) (M_room x1 x2 t) (fun u w => u = w) := by
  obtain ⟨⟨R, G⟩, I, M⟩ := F
  have H := G.h
  have h6 := H.r6
  unfold C_room M_room
  refine w2P (hasRoom_P H.rm) (isRoom_P G.r h6) (fun _ => w2s rfl) (fun c1 => ?_)
  obtain ⟨j, hj, rfl⟩ := room_j h6 c1
  refine w2P within_eq (inP (by decide) (by decide)) (fun _ => w2s rfl) (fun c2 => ?_)
  obtain ⟨k, hk, rfl⟩ := in_j (by decide) c2
  have hk' : k = 0 ∨ k = 1 ∨ k = 2 ∨ k = 3 ∨ k = 4 ∨ k = 5 ∨ k = 6 ∨ k = 7 := by omega
  obtain ⟨⟨kk, hkk, t1, t2⟩, ⟨mc, hmc, t3⟩, t4⟩ := H.to j hj
  rcases hk' with rfl | rfl | rfl | rfl | rfl | rfl | rfl | rfl
  · rw [if_pos rfl, if_pos (by decide), pk_mul, nI_add]
    refine w2l rfl (by omega) (by decide) (w2r rfl (by omega) (by decide) (w2s ?_))
    rw [show 6 * 0 + j = j by omega, ← pg0 (t := t)]
    exact H.w hj
  · rw [if_neg (by decide), if_pos rfl, if_pos (by decide), pk_mul, nI_add]
    refine w2l rfl (by omega) (by decide) (w2r rfl (by omega) (by decide) (w2s ?_))
    rw [show 6 * 1 + j = 6 + j by omega, ← pg0 (t := t)]
    exact H.ls j hj
  · rw [if_neg (by decide), if_neg (by decide), if_pos rfl, if_pos (by decide), pk_mul, nI_add]
    refine w2l rfl (by omega) (by decide) (w2r rfl (by omega) (by decide) (w2s ?_))
    rw [show 6 * 2 + j = 12 + j by omega, ← pg0 (t := t)]
    exact H.br j hj
  · rw [if_neg (by decide), if_neg (by decide), if_neg (by decide), if_pos rfl, if_neg (by decide), if_neg (by decide)]
    refine w2P (hasTongue_eq H hj) (hasT_eq (by omega)) (fun _ => w2s rfl) (fun c4 => ?_)
    rw [if_pos rfl]
    unfold C_ofTongue
    rw [if_pos rfl, nI_add, midx_nI (by omega) (by decide), midx_nI (by omega) (by decide)]
    refine w2s ?_
    show s 15 j = t 11 (18 + j) - nI 1
    rw [← pg0 (t := t), t1]; exact t2
  · rw [if_neg (by decide), if_neg (by decide), if_neg (by decide), if_neg (by decide), if_pos rfl, if_neg (by decide), if_neg (by decide)]
    refine w2P (hasTongue_eq H hj) (hasT_eq (by omega)) (fun _ => w2s rfl) (fun c4 => ?_)
    rw [if_neg (by decide), if_pos rfl]
    unfold C_ofTongue
    rw [if_neg (by decide), if_pos rfl, nI_add, midx_nI (by omega) (by decide), midx_nI (by omega) (by decide)]
    refine w2s ?_
    show s 16 j = t 11 (24 + j)
    rw [← pg0 (t := t)]; exact t4 c4
  · rw [if_neg (by decide), if_neg (by decide), if_neg (by decide), if_neg (by decide), if_neg (by decide), if_pos rfl, if_neg (by decide), if_neg (by decide)]
    refine w2P (hasTongue_eq H hj) (hasT_eq (by omega)) (fun _ => w2s rfl) (fun c4 => ?_)
    rw [if_neg (by decide), if_neg (by decide), if_pos rfl]
    unfold C_ofTongue
    rw [if_neg (by decide), if_neg (by decide), if_pos rfl, lowOf_eq H hj c4, lowOn_eq (by decide) (by omega)]
    exact w2s rfl
  · rw [if_neg (by decide), if_neg (by decide), if_neg (by decide), if_neg (by decide), if_neg (by decide), if_neg (by decide), if_pos rfl, if_neg (by decide), if_neg (by decide)]
    refine w2P (hasTongue_eq H hj) (hasT_eq (by omega)) (fun _ => w2s rfl) (fun c4 => ?_)
    rw [if_neg (by decide), if_neg (by decide), if_neg (by decide)]
    unfold C_ofTongue
    rw [if_neg (by decide), if_neg (by decide), if_neg (by decide), highOf_eq H hj c4, highOn_eq (by decide) (by omega)]
    exact w2s rfl
  · rw [if_neg (by decide), if_neg (by decide), if_neg (by decide), if_neg (by decide), if_neg (by decide), if_neg (by decide), if_neg (by decide), if_pos rfl, if_neg (by decide), if_pos rfl, nI_add]
    refine w2r rfl (by omega) (by decide) ?_
    refine w2Pl (isOn_eq H hj) (fun d => w2s ?_) (fun d => w2s ?_)
    · rw [← pg0 (t := t)]
      exact ((H.bit hj).resolve_right d).symm
    · rw [← pg0 (t := t)]
      exact d.symm
theorem J_wall (F : RF s t) : w2 (C_wall x1 s) (M_wall x1 t) (fun u w => u = w) := by
  obtain ⟨⟨R, G⟩, I, M⟩ := F
  have H := G.h
  have h6 := H.r6
  unfold C_wall M_wall
  refine w2P (hasWall_P H.rm) (isWall_P G.r h6) (fun _ => w2s rfl) (fun c1 => ?_)
  obtain ⟨j, hj, rfl⟩ := wall_j h6 c1
  rw [nI_add]
  refine w2l rfl (by omega) (by decide) (w2r rfl (by omega) (by decide) (w2s ?_))
  rw [← pg0 (t := t)]
  exact H.wa j hj
theorem J_outside (F : RF s t) : w2 (C_outside x1 s) (M_outside x1 t) (fun u w => u = w) := by
  obtain ⟨⟨R, G⟩, I, M⟩ := F
  have H := G.h
  unfold C_outside M_outside
  refine w2P within_eq (inP (by decide) (by decide)) (fun _ => w2s rfl) (fun c1 => ?_)
  obtain ⟨j, hj, rfl⟩ := in_j (by decide) c1
  rw [nI_add]
  refine w2l rfl (by omega) (by decide) (w2r rfl (by omega) (by decide) (w2s ?_))
  rw [← pg0 (t := t)]
  exact H.ou j (by omega)
theorem J_torn (F : RF s t) : w2 (C_torn s) (M_torn t) (fun u w => u = w) := by
  obtain ⟨⟨R, G⟩, I, M⟩ := F
  exact w2s G.tn
theorem Y_c38 (e : t 10 1 = nI R) (hR : R ≤ 6) : ∀ (n r fu : Nat) (a : Int32), r + n = R → n < fu → M_count_38 x1 x2 t fu a (nI r) = M_count_38 x1 x2 t (fu - n + 1) (smN (fun i => t 11 (36 + i) + nI 2) (R - 1 - r) r a) (nI R)
  | n, r, 0, a, hr, hf => absurd hf (by omega)
  | n, r, fu + 1, a, hr, hf => by
    have e0 : ∀ (f : Nat) (a' : Int32) (q : Nat), q ≤ R → ¬ q + 1 < R → M_count_38 x1 x2 t (f + 1) a' (nI q) = M_count_38 x1 x2 t (fu + 1 - n + 1) a' (nI R) := fun f a' q hq h => by
      have h1 : ¬ nI q < nI R - nI 1 := fun z => h ((nI_m1 (by omega) (by omega)).mp z)
      have h2 : ¬ nI R < nI R - nI 1 := fun z => by have := (nI_m1 (n := R) (j := R) (by omega) (by omega)).mp z; omega
      rw [M_count_38, M_count_38, e, if_neg h1, if_neg h2]
    by_cases c : r + 1 < R
    · obtain ⟨n, rfl⟩ : ∃ k, n = k + 1 := ⟨n - 1, by omega⟩
      rw [M_count_38, e, if_pos ((nI_m1 (by omega) (by omega)).mpr c), nI_add, midx_nI (by omega) (by decide), nI_add]
      show M_count_38 x1 x2 t fu (a + (t 11 (36 + r) + nI 2)) (nI (r + 1)) = _
      rw [Y_c38 e hR n (r + 1) fu _ (by omega) (by omega), show R - 1 - r = (R - 1 - (r + 1)) + 1 by omega, smN, show fu + 1 - (n + 1) + 1 = fu - n + 1 by omega]
    · rw [show R - 1 - r = 0 by omega, smN]
      exact e0 fu a r (by omega) c
theorem Y_c7 (e : t 10 1 = nI R) (hR : R ≤ 6) : ∀ (n r fu : Nat) (a : Int32), r + n = R → n < fu → M_count_7 x1 x3 t fu a (nI r) = M_count_38 x1 (smN (fun i => t 11 (6 + i)) n r a) t FU x3 (nI 0)
  | n, r, 0, a, hr, hf => absurd hf (by omega)
  | n, r, fu + 1, a, hr, hf => by
    rw [M_count_7, e]
    by_cases c : r < R
    · obtain ⟨n, rfl⟩ : ∃ k, n = k + 1 := ⟨n - 1, by omega⟩
      rw [if_pos ((nI_ltI (by omega) (by omega)).mpr c), nI_add, midx_nI (by omega) (by decide), nI_add]
      exact Y_c7 e hR n (r + 1) fu _ (by omega) (by omega)
    · obtain rfl : n = 0 := by omega
      rw [if_neg (fun z => c ((nI_ltI (by omega) (by omega)).mp z))]; rfl
theorem X_sum0 {m : Nat} : C_sumOf p (m + 1) (nI 0 - nI 1) s = some (nI 0) := by
  unfold C_sumOf
  show C_sumOf_4 p (m + 1) (nI 0 - nI 1) s (99999 + 1) (nI 0) (nI 0) = _
  rw [C_sumOf_4, if_neg (by decide)]
theorem J_count (F : RF s t) : w2 (C_count x1 s) (M_count x1 t) (fun u w => u = w) := by
  obtain ⟨⟨R, G⟩, I, M⟩ := F
  have H := G.h
  have h6 := H.r6
  obtain ⟨m, hm, f1, f2, _⟩ := G.fe
  obtain ⟨L, hL, g1, g2, _⟩ := G.tp
  unfold M_count
  have h2 : ¬ nI R < nI R - nI 1 := fun z => by have := (nI_m1 (n := R) (j := R) (by omega) (by omega)).mp z; omega
  rw [Y_c7 G.r h6 R 0 FU _ (by omega) (by show R < 100000; omega), Y_c38 G.r h6 R 0 FU _ (by omega) (by show R < 100000; omega), M_count_38, G.r, if_neg h2]
  unfold C_count
  refine w2i (fun _ => w2s (by rw [f1, f2])) (fun _ => w2i (fun _ => ?_) (fun _ => w2i (fun _ => w2s (by rw [g1, g2])) (fun _ => w2i (fun _ => ?_) (fun _ => w2i (fun _ => ?_) (fun _ => w2i (fun _ => ?_) (fun _ => w2s rfl))))))
  · refine w2l rfl (by decide) (by decide) (w2r rfl (by decide) (by decide) ?_)
    have tail : ∀ y : Int32, w2 (C_count_62 y s) (M_count_127 y t) (fun u w => u = w) := fun y => by
      unfold C_count_62 M_count_127
      refine w2l rfl (by decide) (by decide) (w2r rfl (by decide) (by decide) ?_)
      rcases G.kp 1 (by decide) with ⟨q1, q2⟩ | ⟨q1, q2, _⟩
      · rw [q1, q2, if_pos (show nI 0 = 0 from rfl)]; exact w2s rfl
      · rw [q1, q2, if_neg (show ¬ nI 1 = 0 by decide)]; exact w2s rfl
    rcases G.kp 0 (by decide) with ⟨q1, q2⟩ | ⟨q1, q2, _⟩
    · rw [q1, q2, if_pos (by decide), if_pos (by decide)]; exact tail _
    · rw [q1, q2, if_neg (by decide), if_neg (by decide)]; exact tail _
  · obtain ⟨z1, n, n1, n2, n3, _⟩ := G.sh 0 (by decide)
    refine w2r rfl (by decide) (by decide) ?_
    unfold S_isThere
    rcases z1 with ⟨q1, q2⟩ | ⟨l, hl, q1, q2⟩
    · rw [show s 133 0 = -1 from q1, q2, if_pos rfl, if_pos rfl]
      exact w2s rfl
    · have l1 : ¬ nI l = -1 := by
        have hl' : l = 0 ∨ l = 1 ∨ l = 2 := by omega
        rcases hl' with rfl | rfl | rfl <;> decide
      have l4 : ¬ nI l = -4 := by
        have hl' : l = 0 ∨ l = 1 ∨ l = 2 := by omega
        rcases hl' with rfl | rfl | rfl <;> decide
      rw [show s 133 0 = nI l from q1, q2, if_neg l1, if_neg l4]
      refine w2r rfl (by decide) (by decide) (w2s ?_)
      exact n2.trans n3.symm
  · rw [H.rm, X_sumOf h6 (by decide)]
    refine w2s ?_
    exact smN_e R 0 (nI 0) (fun i _ h2 => by rw [← pg0 (t := t)]; exact H.ls i (by omega))
  · rw [H.rm]
    by_cases c : R = 0
    · subst c
      rw [X_sum0]
      exact w2s rfl
    · rw [pk_sub (by omega), X_sumOf (by omega) (by decide)]
      refine w2s ?_
      exact smN_e (R - 1) 0 (nI 0) (fun i _ h2 => by rw [← pg0 (t := t)]; exact H.wa i (by omega))
end PLAIN2
