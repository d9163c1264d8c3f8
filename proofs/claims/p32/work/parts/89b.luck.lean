/-! a fuse that blows by odds, by both -/
def wgN (R : Nat) (O : (Nat → Int32) → Nat) (od : Nat) : Nat → (Nat → Int32) → Nat
  | 0, g => O g
  | n + 1, g => (10 - od) * wgN R O od n (hourV R (skyV g) (nI 0) g) + od * wgN R O od n (hourV R (skyV g) (nI 1) g)
def wtN (od q : Nat) : Nat := if q % 2 = 1 then od else 10 - od
def ptN (R : Nat) (O : (Nat → Int32) → Nat) (od : Nat) : Nat → Nat → Nat → (Nat → Int32) → Nat
  | 0, _, acc, g => acc * O g
  | m + 1, q, acc, g => ptN R O od m (q / 2) (acc * wtN od q) (hourV R (skyV g) (nI (q % 2)) g)
def fsN (f : Nat → Nat) : Nat → Nat
  | 0 => 0
  | k + 1 => fsN f k + f k
theorem fsN_e {f f' : Nat → Nat} (h : ∀ q, f q = f' q) : ∀ k, fsN f k = fsN f' k
  | 0 => rfl
  | k + 1 => by rw [fsN, fsN, fsN_e h k, h k]
theorem ptN_m {R od : Nat} {O : (Nat → Int32) → Nat} : ∀ (m q acc : Nat) (g : Nat → Int32), ptN R O od m q acc g = acc * ptN R O od m q 1 g
  | 0, q, acc, g => by rw [ptN, ptN, Nat.one_mul]
  | m + 1, q, acc, g => by
    rw [ptN, ptN, ptN_m m (q / 2) (acc * wtN od q), ptN_m m (q / 2) (1 * wtN od q), Nat.one_mul, Nat.mul_assoc]
theorem fsN_2 {R od n : Nat} {O : (Nat → Int32) → Nat} {g : Nat → Int32} : ∀ k, fsN (fun q => ptN R O od (n + 1) q 1 g) (2 * k) = (10 - od) * fsN (fun q => ptN R O od n q 1 (hourV R (skyV g) (nI 0) g)) k + od * fsN (fun q => ptN R O od n q 1 (hourV R (skyV g) (nI 1) g)) k
  | 0 => by show 0 = (10 - od) * 0 + od * 0; rw [Nat.mul_zero, Nat.mul_zero]
  | k + 1 => by
    have e1 : ptN R O od (n + 1) (2 * k) 1 g = (10 - od) * ptN R O od n k 1 (hourV R (skyV g) (nI 0) g) := by
      rw [ptN, ptN_m, show 2 * k / 2 = k by omega, show 2 * k % 2 = 0 by omega, Nat.one_mul]
      have : wtN od (2 * k) = 10 - od := by unfold wtN; rw [if_neg (by omega)]
      rw [this]
    have e2 : ptN R O od (n + 1) (2 * k + 1) 1 g = od * ptN R O od n k 1 (hourV R (skyV g) (nI 1) g) := by
      rw [ptN, ptN_m, show (2 * k + 1) / 2 = k by omega, show (2 * k + 1) % 2 = 1 by omega, Nat.one_mul]
      have : wtN od (2 * k + 1) = od := by unfold wtN; rw [if_pos (by omega)]
      rw [this]
    rw [show 2 * (k + 1) = 2 * k + 1 + 1 by omega, fsN, fsN, fsN_2 k, e1, e2, fsN, fsN, Nat.mul_add, Nat.mul_add]
    omega
theorem fs_wg {R od : Nat} {O : (Nat → Int32) → Nat} : ∀ (n : Nat) (g : Nat → Int32), fsN (fun q => ptN R O od n q 1 g) (2 ^ n) = wgN R O od n g
  | 0, g => by
    show 0 + 1 * O g = O g
    omega
  | n + 1, g => by
    rw [Nat.pow_succ, Nat.mul_comm, fsN_2, fs_wg n, fs_wg n]; rfl
theorem wg_le {R od : Nat} {O : (Nat → Int32) → Nat} {G : (Nat → Int32) → Prop} (hod : od ≤ 10) (hG : ∀ g c, G g → G (hourV R (skyV g) (nI c) g)) (hO : ∀ g, G g → O g ≤ 9999) : ∀ (n : Nat) (g : Nat → Int32), G g → wgN R O od n g ≤ 10 ^ n * 9999
  | 0, g, h => by
    show O g ≤ 1 * 9999
    have := hO g h
    omega
  | n + 1, g, h => by
    have h1 := wg_le (od := od) hod hG hO n _ (hG g 0 h)
    have h2 := wg_le (od := od) hod hG hO n _ (hG g 1 h)
    have h3 := Nat.mul_le_mul_left (10 - od) h1
    have h4 := Nat.mul_le_mul_left od h2
    have h5 : (10 - od) * (10 ^ n * 9999) + od * (10 ^ n * 9999) = 10 ^ (n + 1) * 9999 := by
      rw [← Nat.add_mul, show 10 - od + od = 10 by omega, Nat.pow_succ, Nat.mul_comm (10 ^ n) 10, Nat.mul_assoc]
    show (10 - od) * _ + od * _ ≤ _
    omega
section LUCK
variable {s t s0 : sg} {R : Nat} {g : Nat → Int32} {O : (Nat → Int32) → Nat} {G : (Nat → Int32) → Prop} {x x1 x2 x3 x4 x5 : Int32}
/-- the class's weighed sum -/
theorem X_w39 {od n d h : Nat} {kr : Int32 → Int32 → Int32 → Int32 → Int32 → sg → Option (Int64 × sg)} {S : sg} (hod : od ≤ 10) (hd : d < n) (hn : n ≤ 8) (e9 : g 49 = nI h) (hh : h < 2 ^ 29) (H0 : HR S (53 + 8 * d) g R) (h11 : S 11 3 = s0 11 3)
    (hk : ∀ (s : sg) (c : Nat), c ≤ 1 → s 11 3 = s0 11 3 → HR s (53 + 8 * (d + 1)) (hourV R (skyV g) (nI c) g) R → wp (kr (nI d + nI 1) (nI n) (nI od) x4 x5 s) (fun v => v.1 = lN (wgN R O od (n - (d + 1)) (hourV R (skyV g) (nI c) g)) ∧ offD (d + 1) s v.2)) : wp (C_weighed_39 kr (nI d) (nI n) (nI od) x4 x5 (53 + 8 * d) FU (0 : Int64) (nI 0) S) (fun v => v.1 = lN (wgN R O od (n - d) g) ∧ offD d S v.2) := by
  have en : n - d = (n - (d + 1)) + 1 := by omega
  have one : ∀ (fu q w : Nat) (y : Nat) (s : sg), q ≤ 1 → w ≤ 10 → offD d S s → (∀ (y' : Nat) (s' : sg), offD d S s' → y' = y + w * wgN R O od (n - (d + 1)) (hourV R (skyV g) (nI q) g) → wp (C_weighed_39 kr (nI d) (nI n) (nI od) x4 x5 (53 + 8 * d) fu (lN y') (nI (q + 1)) s') (fun v => v.1 = lN (wgN R O od (n - d) g) ∧ offD d S v.2)) → wp (C_weighed_59 kr (C_weighed_39 kr (nI d) (nI n) (nI od) x4 x5 (53 + 8 * d) fu) (nI d) (nI n) (nI od) x4 x5 (53 + 8 * d) (lN y) (nI q) (nI w) s) (fun v => v.1 = lN (wgN R O od (n - d) g) ∧ offD d S v.2) := fun fu q w y s hq hw o k => by
    have H : HR s (53 + 8 * d) g R := H0.off (fun p q1 q2 => o p (by omega))
    unfold C_weighed_59
    rw [nI_add q 1]
    refine wi (fun c => ?_) (fun c => ?_)
    · refine wm (nI_add d 1) (by omega) (by decide) ?_
      rw [copyFrom_eq (show dj (53 + 8 * (d + 1)) (53 + 8 * d) from Or.inr (by omega))]
      refine wsb ?_
      have H1 : HR (cpH s (53 + 8 * (d + 1)) (53 + 8 * d)) (53 + 8 * (d + 1)) g R := H.copy
      rw [skyNow_eq H1 e9 (by omega)]
      refine wsb ?_
      have w101 : ∀ z0 : Int32, z0 = nI q → wp (C_weighed_101 kr (C_weighed_39 kr (nI d) (nI n) (nI od) x4 x5 (53 + 8 * d) fu) (nI d) (nI n) (nI od) x4 x5 (53 + 8 * d) (lN y) (nI q) (nI w) z0 (skyV g) (53 + 8 * (d + 1)) (cpH s (53 + 8 * (d + 1)) (53 + 8 * d))) (fun v => v.1 = lN (wgN R O od (n - d) g) ∧ offD d S v.2) := fun z0 hz => by
        unfold C_weighed_101
        rw [hz]
        refine wb (X_passHourBy H1) (fun s2 h2 => ?_)
        have o2 : offD d S s2 := o.tr ((offH.d cpH_off (by omega)).tr (offH.d h2.2 (by omega)))
        refine wb (hk s2 q hq ((congrFun (o2 11 (by omega)) 3).trans h11) h2.1) (fun v hv => ?_)
        rw [hv.1, nI_l (by omega), lN_mul, lN_add, nI_add]
        exact k _ _ (o2.tr (hv.2.le (by omega))) rfl
      by_cases c1 : q = 1
      · rw [if_pos (by rw [c1])]; exact w101 _ (by rw [c1])
      · rw [if_neg (i32_ne c1 (by omega) (by decide))]
        exact w101 _ (by rw [show q = 0 by omega])
    · have hw0 : w = 0 := Nat.eq_zero_of_not_pos (fun z => c ((nI_ltI (a := 0) (by decide) (by omega)).mpr z))
      exact k y s o (by rw [hw0, Nat.zero_mul, Nat.add_zero])
  show wp (C_weighed_39 kr (nI d) (nI n) (nI od) x4 x5 (53 + 8 * d) (99999 + 1) (lN 0) (nI 0) S) _
  rw [C_weighed_39, if_neg (by decide), if_neg (by decide), pk_sub hod]
  refine one 99999 0 (10 - od) 0 S (by decide) (by omega) offD.rf (fun y1 s1 o1 e1 => ?_)
  show wp (C_weighed_39 kr (nI d) (nI n) (nI od) x4 x5 (53 + 8 * d) (99998 + 1) (lN y1) (nI 1) s1) _
  rw [C_weighed_39, if_neg (by decide), if_pos rfl]
  refine one 99998 1 od y1 s1 (by decide) hod o1 (fun y2 s2 o2 e2 => ?_)
  show wp (C_weighed_39 kr (nI d) (nI n) (nI od) x4 x5 (53 + 8 * d) (99997 + 1) (lN y2) (nI 2) s2) _
  rw [C_weighed_39, if_pos (by decide)]
  refine ws ⟨?_, o2⟩
  show lN y2 = lN (wgN R O od (n - d) g)
  rw [en, wgN, e2, e1, Nat.zero_add]
theorem X_weighed {od n : Nat} (hod : od ≤ 10) (hn : n ≤ 8) (hG : ∀ g c, G g → G (hourV R (skyV g) (nI c) g)) (hO : ∀ (b : Nat) (s : sg) (g : Nat → Int32), G g → HR s b g R → s 11 3 = s0 11 3 → C_outcome b x4 x5 s = some (nI (O g)) ∧ O g ≤ 9999) : ∀ (dp d h : Nat) (s : sg) (g : Nat → Int32), d ≤ n → n - d < dp → g 49 = nI h → h + (n - d) < 2 ^ 29 → G g → HR s (53 + 8 * d) g R → s 11 3 = s0 11 3 → wp (C_weighed dp (nI d) (nI n) (nI od) x4 x5 s) (fun v => v.1 = lN (wgN R O od (n - d) g) ∧ offD d s v.2)
  | 0, d, h, s, g, hd, hp, e9, hh, hg, H, h11 => absurd hp (by omega)
  | dp + 1, d, h, s, g, hd, hp, e9, hh, hg, H, h11 => by
    have h6 := H.r6
    rw [C_weighed]
    have w21 : n - d = 0 → wp (C_weighed_21 (C_weighed dp) x4 x5 (53 + 8 * d) s) (fun v => v.1 = lN (wgN R O od (n - d) g) ∧ offD d s v.2) := fun z => by
      obtain ⟨e, l⟩ := hO (53 + 8 * d) s g hg H h11
      unfold C_weighed_21
      rw [e, z]
      refine wsb (ws ⟨?_, offD.rf⟩)
      show (nI (O g)).toInt64 = lN (O g)
      exact nI_l (by omega)
    refine wm rfl (by omega) (by decide) (wi (fun c => ?_) (fun c => w21 ?_))
    · have hc := (nI_ltI (by omega) (by omega)).mp c
      rw [nI_add]
      refine wi (fun _ => ?_) (fun q => absurd ((nI_ltI (by omega) (by decide)).mpr (by omega)) q)
      refine X_w39 (s0 := s0) hod hc hn e9 (by omega) H h11 (fun s' cc hcc h11' H' => ?_)
      rw [nI_add]
      exact X_weighed hod hn hG hO dp (d + 1) (h + 1) s' _ (by omega) (by omega) (hourV_49 h6 e9) (by omega) (hG g cc hg) H' h11'
    · have hc : ¬ d < n := fun z => c ((nI_ltI (by omega) (by omega)).mpr z)
      omega
theorem pgc_S {t' : sg} (o : offS t t') : pgc t' 0 = pgc t 0 := by
  funext i
  unfold pgc pg cpM
  by_cases c : 11 = 11 ∧ 208 ≤ 208 + i ∧ 208 + i < 208 + 52
  · rw [if_pos c, if_pos c]
    exact o 11 _ (by omega) (by decide) (by omega)
  · rw [if_neg c, if_neg c]
    exact o 11 _ (by omega) (by decide) (by omega)
theorem bt8 : ∀ q : Nat, q < 256 → ∀ i : Nat, i < 8 → ((nI q >>> (nI i &&& 31)) &&& nI 1) = nI (q / 2 ^ i % 2) := by decide +kernel
/-- one pattern of the fuse, at the reference -/
theorem Y_54 {od n q y : Nat} {x8 : Int64} {k32 : Int64 → Int32 → sg → Option (Int64 × sg)} {e50 : Int32} (hod : od ≤ 10) (hn : n ≤ 8) (hq : q < 256) (hR : R ≤ 6) (hG : ∀ g c, G g → G (hourV R (skyV g) (nI c) g))
    (hOut : ∀ (fu : Nat) (x11 : Int64) (t : sg), G (pg t 208) → t 11 50 = e50 → M_byFuse_54 k32 (nI od) x2 (nI n) x4 x5 (lN y) x8 (nI q) (fu + 1) x11 (nI n) t = k32 (lN y + x11 * lN (O (pg t 208))) (nI q + nI 1) t) : ∀ (m i fu h acc : Nat) (t : sg), i + m = n → t 10 1 = nI R → pg t 208 49 = nI h → h + m < 2 ^ 29 → G (pg t 208) → t 11 50 = e50 → m < fu → ∃ t', M_byFuse_54 k32 (nI od) x2 (nI n) x4 x5 (lN y) x8 (nI q) fu (lN acc) (nI i) t = k32 (lN (y + ptN R O od m (q / 2 ^ i) acc (pg t 208))) (nI q + nI 1) t' ∧ offS t t'
  | m, i, 0, h, acc, t, hr, e, e9, hh, hg, h50, hf => absurd hf (by omega)
  | 0, i, fu + 1, h, acc, t, hr, e, e9, hh, hg, h50, hf => by
    obtain rfl : i = n := by omega
    refine ⟨t, ?_, offS.rf⟩
    rw [hOut fu (lN acc) t hg h50, lN_mul, lN_add]; rfl
  | m + 1, i, fu + 1, h, acc, t, hr, e, e9, hh, hg, h50, hf => by
    obtain ⟨t1, et, g1, o1⟩ := Y_hourOn (t := t) (p := 208) (x1 := skyV (pg t 208)) (x2 := nI (q / 2 ^ i % 2)) (by decide) hR e
    have e1 : t1 10 1 = nI R := (o1 10 1 (by omega) (by decide)).trans e
    have w1 : t1 11 50 = e50 := (o1 11 50 (by omega) (by decide)).trans h50
    obtain ⟨t2, a1, a2⟩ := Y_54 (k32 := k32) (x8 := x8) hod hn hq hR hG hOut m (i + 1) fu (h + 1) (acc * wtN od (q / 2 ^ i)) t1 (by omega) e1 (by rw [g1]; exact hourV_49 hR e9) (by omega) (by rw [g1]; exact hG _ _ hg) w1 (by omega)
    refine ⟨t2, ?_, (offP.s o1).tr a2⟩
    have hd : q / 2 ^ i / 2 = q / 2 ^ (i + 1) := by rw [Nat.div_div_eq_div_mul, Nat.pow_succ]
    rw [ptN, hd, ← g1, ← a1, M_byFuse_54, if_pos ((nI_ltI (by omega) (by omega)).mpr (by omega)), bt8 q hq i (by omega)]
    have go : ∀ (x14 : Int32) (w : Nat), x14 = nI (q / 2 ^ i % 2) → w = wtN od (q / 2 ^ i) → M_byFuse_95 k32 (M_byFuse_54 k32 (nI od) x2 (nI n) x4 x5 (lN y) x8 (nI q) fu) (nI od) x2 (nI n) x4 x5 (lN y) x8 (nI q) (nI i) x14 (lN w) (lN acc) t = M_byFuse_54 k32 (nI od) x2 (nI n) x4 x5 (lN y) x8 (nI q) fu (lN (acc * wtN od (q / 2 ^ i))) (nI (i + 1)) t1 := fun x14 w h1 h2 => by
      unfold M_byFuse_95
      rw [outOn_eq (by decide) e9 (by omega), h1, h2]
      show ((M_hourOn (nI 208) (skyV (pg t 208)) (nI (q / 2 ^ i % 2)) t).bind fun s1 => M_byFuse_54 k32 (nI od) x2 (nI n) x4 x5 (lN y) x8 (nI q) fu (lN acc * lN (wtN od (q / 2 ^ i))) (nI i + nI 1) s1) = _
      rw [et, lN_mul, nI_add]; rfl
    unfold M_byFuse_76
    by_cases c : q / 2 ^ i % 2 = 1
    · rw [if_pos (by rw [c]), if_neg (by decide), nI_l (by omega)]
      exact go _ _ (by rw [c]) (by unfold wtN; rw [if_pos c])
    · have c0 : q / 2 ^ i % 2 = 0 := by omega
      rw [if_neg (by rw [c0]; decide), if_pos (by decide), pk_sub hod, nI_l (by omega)]
      exact go _ _ (by rw [c0]) (by unfold wtN; rw [if_neg c])
theorem Y_32 {od n : Nat} {x8 : Int64} {e50 : Int32} {h : Nat} {g0 : Nat → Int32} (hod : od ≤ 10) (hn : n ≤ 8) (hR : R ≤ 6) (hG : ∀ g c, G g → G (hourV R (skyV g) (nI c) g)) (hg0 : G g0) (e9 : g0 49 = nI h) (hh : h ≤ 999)
    (hOut : ∀ (y q : Nat) (k32 : Int64 → Int32 → sg → Option (Int64 × sg)) (fu : Nat) (x11 : Int64) (t : sg), G (pg t 208) → t 11 50 = e50 → M_byFuse_54 k32 (nI od) x2 (nI n) x4 x5 (lN y) x8 (nI q) (fu + 1) x11 (nI n) t = k32 (lN y + x11 * lN (O (pg t 208))) (nI q + nI 1) t) : ∀ (m q fu : Nat) (t : sg), pgc t 0 = g0 → t 10 1 = nI R → t 11 50 = e50 → q + m = 2 ^ n → m < fu → ∃ t', M_byFuse_32 (nI od) x2 (nI n) x4 x5 x8 fu (lN (fsN (fun q => ptN R O od n q 1 g0) q)) (nI q) t = (M_lowest (lN (wgN R O od n g0)) x8 x5 t').bind fun v1 => some (v1, t')
  | m, q, 0, t, hp, e, h50, hr, hf => absurd hf (by omega)
  | m, q, fu + 1, t, hp, e, h50, hr, hf => by
    have h2 : 2 ^ n ≤ 256 := Nat.pow_le_pow_right (n := 2) (by decide) hn
    rw [M_byFuse_32, sh_n n (by omega)]
    by_cases c : q < 2 ^ n
    · rw [if_pos ((nI_ltI (by omega) (by omega)).mpr c), copies_eq (by decide) (by decide) (by omega)]
      have ec : pg (cpM t 0 208 52) 208 = g0 := hp
      have oc : offS t (cpM t 0 208 52) := fun p k a1 _ _ => cpM_ne (by omega)
      obtain ⟨t1, a1, a2⟩ := Y_54 (O := O) (G := G) (y := fsN (fun q => ptN R O od n q 1 g0) q) (x2 := x2) (x4 := x4) (x5 := x5) (x8 := x8) (e50 := e50) (k32 := M_byFuse_32 (nI od) x2 (nI n) x4 x5 x8 fu) hod hn (show q < 256 by omega) hR hG (hOut _ _ _) n 0 FU h 1 (cpM t 0 208 52) (by omega) ((cpM_ne (Or.inl (by decide))).trans e) (by rw [ec]; exact e9) (by omega) (by rw [ec]; exact hg0) ((cpM_ne (by omega)).trans h50) (by show n < 100000; omega)
      rw [ec, Nat.pow_zero, Nat.div_one] at a1
      obtain ⟨t2, b1⟩ := Y_32 hod hn hR hG hg0 e9 hh hOut (m - 1) (q + 1) fu t1 (by rw [pgc_S (oc.tr a2)]; exact hp) (by rw [(oc.tr a2) 10 1 (by omega) (by decide) (by omega)]; exact e) (by rw [(oc.tr a2) 11 50 (by omega) (by decide) (by omega)]; exact h50) (by omega) (by omega)
      refine ⟨t2, ?_⟩
      refine Eq.trans ?_ b1
      refine Eq.trans a1 ?_
      rw [nI_add]; rfl
    · obtain rfl : q = 2 ^ n := by omega
      rw [if_neg (fun z => c ((nI_ltI (by omega) (by omega)).mp z)), fs_wg]
      exact ⟨t, rfl⟩
theorem lN_big {n : Nat} (h : n < 2 ^ 62) : (lN n).toInt = (n : Int) := lg_ofNat_toInt (by omega)
theorem lN_ne {n : Nat} (h0 : 0 < n) (h : n < 2 ^ 62) : ¬ lN n = 0 := fun w => by
  have e := lN_big h
  rw [w] at e
  have z : (0 : Int64).toInt = 0 := rfl
  rw [z] at e
  omega
theorem lN_rem {u w : Nat} (hu : u < 2 ^ 62) (hw : w < 2 ^ 62) (h0 : 0 < w) : lN u - lN u / lN w * lN w = lN (u % w) := by
  apply Int64.toInt_inj.mp
  have hm : u % w < w := Nat.mod_lt _ h0
  rw [rem64 _ _ (lN_ne h0 hw), lN_big hu, lN_big hw, lN_big (by omega)]
  exact (Int.ofNat_tmod u w).symm
theorem K_gcd {x0 y2 : Int64} : ∀ (n i fu fu' u w : Nat), u < 2 ^ 62 → w < 2 ^ 62 → w < 2 ^ n → (0 < u ∨ 0 < w) → i + 2 * n + 1 ≤ 200 → 2 * n + 1 < fu → 2 * n + 1 < fu' → ∃ d, 0 < d ∧ d < 2 ^ 62 ∧ C_commonDivisor_3 s fu (lN u) (lN w) (nI i) = some (lN d) ∧ M_lowest_6 x0 y2 x4 t fu' (lN u) (lN w) = (if x4 = 0 then M_lowest_41 (lN d) x0 t else M_lowest_41 (lN d) y2 t)
  | n, i, 0, fu', u, w, hu, hw, hn, hz, hi, hf, hf' => absurd hf (by omega)
  | n, i, fu + 1, 0, u, w, hu, hw, hn, hz, hi, hf, hf' => absurd hf' (by omega)
  | n, i, fu + 1, fu' + 1, u, w, hu, hw, hn, hz, hi, hf, hf' => by
    by_cases c : w = 0
    · subst c
      have hup : 0 < u := hz.resolve_right (by omega)
      refine ⟨u, hup, hu, ?_, ?_⟩
      · rw [C_commonDivisor_3, if_pos ((nI_ltI (by omega) (by decide)).mpr (by omega)), if_pos (show lN 0 = (0 : Int64) from rfl)]
        unfold C_commonDivisor_33
        by_cases d : u = 1
        · subst d; rfl
        · have z : (1 : Int64) < lN u := by
            rw [Int64.lt_iff_toInt_lt, lN_big hu]
            have e1 : (1 : Int64).toInt = 1 := rfl
            rw [e1]
            omega
          rw [if_pos z]
      · rw [M_lowest_6, if_pos (show lN 0 = (0 : Int64) from rfl)]
    · have hwp : 0 < w := Nat.pos_of_ne_zero c
      have hm : u % w < w := Nat.mod_lt _ hwp
      have s1 : C_commonDivisor_3 s (fu + 1) (lN u) (lN w) (nI i) = C_commonDivisor_3 s fu (lN w) (lN (u % w)) (nI (i + 1)) := by
        rw [C_commonDivisor_3, if_pos ((nI_ltI (by omega) (by decide)).mpr (by omega)), if_neg (lN_ne hwp hw), if_neg (lN_ne hwp hw), lN_rem hu hw hwp, nI_add]
      have s2 : M_lowest_6 x0 y2 x4 t (fu' + 1) (lN u) (lN w) = M_lowest_6 x0 y2 x4 t fu' (lN w) (lN (u % w)) := by
        rw [M_lowest_6, if_neg (lN_ne hwp hw), if_neg (lN_ne hwp hw), lN_rem hu hw hwp]
      rw [s1, s2]
      obtain ⟨n, rfl⟩ : ∃ m, n = m + 1 := ⟨n - 1, by
        rcases n with - | n
        · simp at hn; omega
        · omega⟩
      have hp2 : 2 ^ (n + 1) = 2 * 2 ^ n := by rw [Nat.pow_succ, Nat.mul_comm]
      by_cases q : u % w < 2 ^ n
      · exact K_gcd n (i + 1) fu fu' w (u % w) hw (by omega) q (Or.inl hwp) (by omega) (by omega) (by omega)
      · obtain ⟨fu, rfl⟩ : ∃ m, fu = m + 1 := ⟨fu - 1, by omega⟩
        obtain ⟨fu', rfl⟩ : ∃ m, fu' = m + 1 := ⟨fu' - 1, by omega⟩
        have hp0 : 0 < 2 ^ n := Nat.two_pow_pos n
        have hrp : 0 < u % w := by omega
        have hr : u % w < 2 ^ 62 := by omega
        have s3 : C_commonDivisor_3 s (fu + 1) (lN w) (lN (u % w)) (nI (i + 1)) = C_commonDivisor_3 s fu (lN (u % w)) (lN (w % (u % w))) (nI (i + 2)) := by
          rw [C_commonDivisor_3, if_pos ((nI_ltI (by omega) (by decide)).mpr (by omega)), if_neg (lN_ne hrp hr), if_neg (lN_ne hrp hr), lN_rem hw hr hrp, nI_add]
        have s4 : M_lowest_6 x0 y2 x4 t (fu' + 1) (lN w) (lN (u % w)) = M_lowest_6 x0 y2 x4 t fu' (lN (u % w)) (lN (w % (u % w))) := by
          rw [M_lowest_6, if_neg (lN_ne hrp hr), if_neg (lN_ne hrp hr), lN_rem hw hr hrp]
        rw [s3, s4]
        have hm2 : w % (u % w) < u % w := Nat.mod_lt _ hrp
        have hm3 : w % (u % w) < 2 ^ n := by
          have h1 : w % (u % w) ≤ w - u % w := by
            rw [Nat.mod_eq_sub_mod (show u % w ≤ w by omega)]
            exact Nat.mod_le _ _
          omega
        exact K_gcd n (i + 2) fu fu' (u % w) (w % (u % w)) hr (by omega) hm3 (Or.inl hrp) (by omega) (by omega) (by omega)
/-- the fraction, in its lowest terms -/
theorem K_frac {u w : Nat} (hu : u < 2 ^ 62) (hw : w < 2 ^ 62) (h0 : 0 < w) : ∃ v, C_ofFraction (lN u) (lN w) x4 s = some v ∧ M_lowest (lN u) (lN w) x4 t = some v := by
  obtain ⟨d, d0, d1, d2, d3⟩ := K_gcd (s := s) (t := t) (x4 := x4) (x0 := lN u) (y2 := lN w) 62 0 FU FU u w hu hw hw (Or.inr h0) (by decide) (by decide) (by decide)
  unfold C_ofFraction M_lowest C_commonDivisor
  rw [d2, d3]
  by_cases c : x4 = 0
  · refine ⟨lN u / lN d, ?_, ?_⟩
    · show (if x4 = 0 then (if lN d = 0 then none else some (lN u / lN d)) else (if lN d = 0 then none else some (lN w / lN d))) = _
      rw [if_pos c, if_neg (lN_ne d0 d1)]
    · rw [if_pos c]
      unfold M_lowest_41
      rw [if_neg (lN_ne d0 d1)]
  · refine ⟨lN w / lN d, ?_, ?_⟩
    · show (if x4 = 0 then (if lN d = 0 then none else some (lN u / lN d)) else (if lN d = 0 then none else some (lN w / lN d))) = _
      rw [if_neg c, if_neg (lN_ne d0 d1)]
    · rw [if_neg c]
      unfold M_lowest_41
      rw [if_neg (lN_ne d0 d1)]
theorem X_ten {n : Nat} (hn : n ≤ 8) : ∀ (m i fu : Nat), i + m = n → m < fu → C_tenTo_4 (nI n) s fu (lN (10 ^ i)) (nI i) = some (lN (10 ^ n))
  | m, i, 0, hr, hf => absurd hf (by omega)
  | m, i, fu + 1, hr, hf => by
    rw [C_tenTo_4]
    by_cases c : i < n
    · rw [if_pos ((nI_ltI (by omega) (by omega)).mpr c), show (10 : Int64) = lN 10 from rfl, lN_mul, ← Nat.pow_succ, nI_add]
      exact X_ten hn (m - 1) (i + 1) fu (by omega) (by omega)
    · obtain rfl : i = n := by omega
      rw [if_neg (fun z => c ((nI_ltI (by omega) (by omega)).mp z))]
theorem Y_9 {n : Nat} {y6 : Int64} (hn : n ≤ 8) : ∀ (m i fu : Nat), i + m = n → m < fu → M_byFuse_9 x1 x2 (nI n) x4 x5 y6 fu (lN (10 ^ i)) (nI i) t = M_byFuse_32 x1 x2 (nI n) x4 x5 (lN (10 ^ n)) FU y6 (nI 0) t
  | m, i, 0, hr, hf => absurd hf (by omega)
  | m, i, fu + 1, hr, hf => by
    rw [M_byFuse_9]
    by_cases c : i < n
    · rw [if_pos ((nI_ltI (by omega) (by omega)).mpr c), show (10 : Int64) = lN 10 from rfl, lN_mul, ← Nat.pow_succ, nI_add]
      exact Y_9 hn (m - 1) (i + 1) fu (by omega) (by omega)
    · obtain rfl : i = n := by omega
      rw [if_neg (fun z => c ((nI_ltI (by omega) (by omega)).mp z))]
/-- both fractions, once outcomes agree -/
theorem K_fuse {od n h : Nat} {e50 : Int32} (hod : od ≤ 10) (hn : n ≤ 8) (Gr : RG s t R) (e9 : pg t 0 49 = nI h) (hh : h ≤ 999) (hG : ∀ g c, G g → G (hourV R (skyV g) (nI c) g)) (hg0 : G (pgc t 0)) (h50 : t 11 50 = e50) (hOb : ∀ g, G g → O g ≤ 9999)
    (hO : ∀ (b : Nat) (s' : sg) (g : Nat → Int32), G g → HR s' b g R → s' 11 3 = s 11 3 → C_outcome b x2 x4 s' = some (nI (O g)) ∧ O g ≤ 9999)
    (hOut : ∀ (x8 : Int64) (y q : Nat) (k32 : Int64 → Int32 → sg → Option (Int64 × sg)) (fu : Nat) (x11 : Int64) (t : sg), G (pg t 208) → t 11 50 = e50 → M_byFuse_54 k32 (nI od) x2 (nI n) x4 x5 (lN y) x8 (nI q) (fu + 1) x11 (nI n) t = k32 (lN y + x11 * lN (O (pg t 208))) (nI q + nI 1) t) : w2 ((H_copyFrom 53 11 s).bind fun s1 => (C_weighed 10 (nI 0) (nI n) (nI od) x2 x4 s1).bind fun v5 => (C_tenTo (nI n) v5.2).bind fun v6 => (C_ofFraction v5.1 v6 x5 v5.2).bind fun v7 => some (v7, v5.2)) (M_byFuse (nI od) x2 (nI n) x4 x5 t) (fun a b => a.1 = b.1) := by
  have H := Gr.h
  have h6 := H.r6
  have hb : wgN R O od n (pgc t 0) < 2 ^ 62 := by
    have h1 := wg_le (R := R) (O := O) (od := od) hod hG (fun g hg => ?_) n (pgc t 0) hg0
    · have h2 : 10 ^ n ≤ 10 ^ 8 := Nat.pow_le_pow_right (by decide) hn
      have h3 : (10 : Nat) ^ 8 = 100000000 := by decide
      have h4 : (2 : Nat) ^ 62 = 4611686018427387904 := by decide
      omega
    · exact hOb g hg
  rw [copyFrom_eq (show dj 53 11 from Or.inr (by decide))]
  refine w2sl (w2bl (X_weighed (O := O) (G := G) (s0 := s) hod hn hG hO 10 0 h _ (pgc t 0) (by omega) (by omega) ((pgc_e (by decide)).trans e9) (by omega) hg0 Gr.cp53 (congrFun (cpH_off 11 (by omega)) 3)) (fun v hv => ?_))
  have e10 : C_tenTo (nI n) v.2 = some (lN (10 ^ n)) := by
    unfold C_tenTo
    exact X_ten hn n 0 FU (by omega) (by show n < 100000; omega)
  rw [e10, hv.1]
  obtain ⟨t2, et⟩ := Y_32 (O := O) (G := G) (x2 := x2) (x4 := x4) (x5 := x5) (x8 := lN (10 ^ n)) (e50 := e50) (g0 := pgc t 0) hod hn h6 hG hg0 ((pgc_e (by decide)).trans e9) hh (hOut _) (2 ^ n) 0 FU t rfl Gr.r h50 (by omega) (by have h2 : 2 ^ n ≤ 256 := Nat.pow_le_pow_right (n := 2) (by decide) hn; show 2 ^ n < 100000; omega)
  have eM : M_byFuse (nI od) x2 (nI n) x4 x5 t = (M_lowest (lN (wgN R O od n (pgc t 0))) (lN (10 ^ n)) x5 t2).bind fun v1 => some (v1, t2) := by
    unfold M_byFuse
    refine Eq.trans (Y_9 hn n 0 FU (by omega) (by show n < 100000; omega)) et
  rw [eM]
  have hp10 : 10 ^ n < 2 ^ 62 := by
    have h2 : 10 ^ n ≤ 10 ^ 8 := Nat.pow_le_pow_right (by decide) hn
    have h3 : (10 : Nat) ^ 8 = 100000000 := by decide
    have h4 : (2 : Nat) ^ 62 = 4611686018427387904 := by decide
    omega
  obtain ⟨w, w1, w2'⟩ := K_frac (s := v.2) (t := t2) (x4 := x5) hb hp10 (Nat.pow_pos (by decide))
  rw [Nat.sub_zero]
  refine w2sl ?_
  rw [w1, w2']
  exact w2sl (w2sr (w2s rfl))
theorem obP {β : Type} {P : Prop} [Decidable P] {A B : Option β} : ((some (if P then nI 1 else nI 0)).bind fun v => if v = 0 then A else B) = if P then B else A := by
  by_cases c : P
  · rw [if_pos c, if_pos c]
    show (if nI 1 = 0 then A else B) = B
    rw [if_neg (by decide)]
  · rw [if_neg c, if_neg c]
    show (if nI 0 = 0 then A else B) = A
    rw [if_pos (by decide)]
theorem fuse_eq : C_fuseIsAsTold x1 x2 x3 s = some (if (¬ x1 < nI 0 ∧ ¬ nI 10 < x1) ∧ (¬ x2 < nI 0 ∧ ¬ nI 8 < x2) ∧ (¬ x3 < nI 0 ∧ ¬ nI 1 < x3) then nI 1 else nI 0) := by
  unfold C_fuseIsAsTold
  rw [within_eq, within_eq, within_eq, obP, obP, obP]
  by_cases p1 : ¬ x1 < nI 0 ∧ ¬ nI 10 < x1
  · rw [if_pos p1]
    by_cases p2 : ¬ x2 < nI 0 ∧ ¬ nI 8 < x2
    · rw [if_pos p2]
      by_cases p3 : ¬ x3 < nI 0 ∧ ¬ nI 1 < x3
      · rw [if_pos p3, if_pos ⟨p1, p2, p3⟩]
      · rw [if_neg p3, if_neg (fun z => p3 z.2.2)]
    · rw [if_neg p2, if_neg (fun z => p2 z.2.1)]
  · rw [if_neg p1, if_neg (fun z => p1 z.1)]
theorem J_luck (F : RF s t) : w2 (C_luck x1 x2 x3 x4 x5 s) (M_luck x1 x2 x3 x4 x5 t) (fun a b => a.1 = b.1) := by
  obtain ⟨⟨R, Gr⟩, I, M⟩ := F
  have H := Gr.h
  have h6 := H.r6
  obtain ⟨R', h, hh, Hs⟩ := I.1
  have no : w2 (some ((-1 : Int64), s)) (some ((-1 : Int64), t)) (fun a b => a.1 = b.1) := w2s rfl
  unfold C_luck M_luck
  rw [fuse_eq, hasRoom_P H.rm, within_eq, isRoom_P Gr.r h6, inP (x := x1) (lo := nI 0) (hi := nI 10) (by decide) (by decide), inP (x := x3) (lo := nI 0) (hi := nI 8) (by decide) (by decide), inP (x := x4) (lo := nI 0) (hi := nI 99) (by decide) (by decide), inP (x := x5) (lo := nI 0) (hi := nI 1) (by decide) (by decide), obP, obP, obP, obP, obP, obP, obP, obP]
  by_cases p1 : ¬ x1 < nI 0 ∧ ¬ nI 10 < x1
  · rw [if_pos p1]
    by_cases p2 : ¬ x2 < nI 0 ∧ x2 < nI R
    · rw [if_pos p2, if_pos p2]
      by_cases p3 : ¬ x3 < nI 0 ∧ ¬ nI 8 < x3
      · rw [if_pos p3]
        by_cases p4 : ¬ x4 < nI 0 ∧ ¬ nI 99 < x4
        · rw [if_pos p4, if_pos p4]
          by_cases p5 : ¬ x5 < nI 0 ∧ ¬ nI 1 < x5
          · rw [if_pos p5, if_pos ⟨p1, p3, p5⟩]
            obtain ⟨od, hod, rfl⟩ := in_j (by decide) p1
            obtain ⟨j, hj, rfl⟩ := room_j h6 p2
            obtain ⟨n, hn, rfl⟩ := in_j (by decide) p3
            have k := K_fuse (O := fun g => if g j < x4 then 0 else 1) (G := fun _ => True) (x2 := nI j) (x4 := x4) (x5 := x5) (e50 := t 11 50) hod hn Gr (Gr.hh Hs) hh (fun _ _ _ => trivial) trivial rfl (fun g _ => by
              by_cases c : g j < x4
              · rw [if_pos c]; omega
              · rw [if_neg c]; omega) (fun b s' g _ H' _ => ⟨?_, ?_⟩) (fun x8 y q k32 fu x11 t' _ _ => ?_)
            · obtain ⟨a, b, ea, eb, e⟩ := k
              exact ⟨a, (b.1, b.2), ea, by rw [eb]; rfl, e⟩
            · unfold C_outcome
              rw [hasRoom_P H'.rm, obP, if_pos ⟨nI_pos (by omega), (nI_ltI (by omega) (by omega)).mpr hj⟩, midx_nI (by omega) (by decide)]
              show (if s' (b + 1) j < x4 then some (nI 0) else some (nI 1)) = some (nI (if g j < x4 then 0 else 1))
              rw [H'.w hj]
              by_cases c : g j < x4
              · rw [if_pos c, if_pos c]
              · rw [if_neg c, if_neg c]
            · show (if g j < x4 then 0 else 1) ≤ 9999
              by_cases c : g j < x4
              · rw [if_pos c]; omega
              · rw [if_neg c]; omega
            · have nj : ¬ nI j = -4 := fun z => absurd (nI_pos (n := j) (by omega)) (by rw [z]; decide)
              rw [M_byFuse_54, if_neg (fun z => by have := (nI_ltI (by omega) (by omega)).mp z; omega), if_neg nj, nI_add, midx_nI (by omega) (by decide)]
              show (if t' 11 (208 + j) < x4 then M_byFuse_169 k32 (nI od) (nI j) (nI n) x4 x5 x8 (nI q) (nI 0) x11 (lN y) t' else M_byFuse_169 k32 (nI od) (nI j) (nI n) x4 x5 x8 (nI q) (nI 1) x11 (lN y) t') = k32 (lN y + x11 * lN (if pg t' 208 j < x4 then 0 else 1)) (nI q + nI 1) t'
              unfold M_byFuse_169
              by_cases c : pg t' 208 j < x4
              · rw [if_pos c, if_pos (show t' 11 (208 + j) < x4 from c), nI_l (by decide)]
              · rw [if_neg c, if_neg (show ¬ t' 11 (208 + j) < x4 from c), nI_l (by decide)]
          · rw [if_neg p5, if_neg (fun z => p5 z.2.2)]; exact no
        · rw [if_neg p4, if_neg p4]
          by_cases p5 : (¬ x1 < nI 0 ∧ ¬ nI 10 < x1) ∧ (¬ x3 < nI 0 ∧ ¬ nI 8 < x3) ∧ (¬ x5 < nI 0 ∧ ¬ nI 1 < x5)
          · rw [if_pos p5]; exact no
          · rw [if_neg p5]; exact no
      · rw [if_neg p3, if_neg (fun z => p3 z.2.1)]; exact no
    · rw [if_neg p2, if_neg p2]
      by_cases p5 : (¬ x1 < nI 0 ∧ ¬ nI 10 < x1) ∧ (¬ x3 < nI 0 ∧ ¬ nI 8 < x3) ∧ (¬ x5 < nI 0 ∧ ¬ nI 1 < x5)
      · rw [if_pos p5]; exact no
      · rw [if_neg p5]; exact no
  · rw [if_neg p1, if_neg (fun z => p1 z.1)]; exact no
theorem J_mean (F : RF s t) : w2 (C_mean x1 x2 x3 s) (M_mean x1 x2 x3 t) (fun a b => a.1 = b.1) := by
  obtain ⟨⟨R, Gr⟩, I, M⟩ := F
  have H := Gr.h
  have h6 := H.r6
  obtain ⟨R', h, hh, Hs⟩ := I.1
  have no : w2 (some ((-1 : Int64), s)) (some ((-1 : Int64), t)) (fun a b => a.1 = b.1) := w2s rfl
  unfold C_mean M_mean
  rw [fuse_eq, inP (x := x1) (lo := nI 0) (hi := nI 10) (by decide) (by decide), inP (x := x2) (lo := nI 0) (hi := nI 8) (by decide) (by decide), inP (x := x3) (lo := nI 0) (hi := nI 1) (by decide) (by decide), obP, obP, obP, obP]
  by_cases p1 : ¬ x1 < nI 0 ∧ ¬ nI 10 < x1
  · rw [if_pos p1]
    by_cases p2 : ¬ x2 < nI 0 ∧ ¬ nI 8 < x2
    · rw [if_pos p2]
      by_cases p3 : ¬ x3 < nI 0 ∧ ¬ nI 1 < x3
      · rw [if_pos p3, if_pos ⟨p1, p2, p3⟩]
        obtain ⟨od, hod, rfl⟩ := in_j (by decide) p1
        obtain ⟨n, hn, rfl⟩ := in_j (by decide) p2
        obtain ⟨e50, c0, hc0, d0⟩ := H.bu
        rw [pg0] at d0 e50
        have k := K_fuse (O := fun g => (g 50).toInt.toNat - c0) (G := fun g => ∃ c : Nat, c0 ≤ c ∧ c ≤ 9999 ∧ g 50 = nI c) (x2 := -4) (x4 := nI 0) (x5 := x3) (e50 := t 11 50) hod hn Gr (Gr.hh Hs) hh (fun g cc hg => ?_) ⟨c0, Nat.le_refl _, hc0, by rw [pgc_e (by decide), pg0]; exact d0⟩ rfl (fun g hg => ?_) (fun b s' g hg H' h11 => ⟨?_, ?_⟩) (fun x8 y q k32 fu x11 t' hg h5 => ?_)
        · obtain ⟨a, b, ea, eb, e⟩ := k
          exact ⟨a, (b.1, b.2), ea, by rw [eb]; rfl, e⟩
        · obtain ⟨c, c1, c2, c3⟩ := hg
          obtain ⟨c', a1, a2, a3⟩ := hourV_50 (x1 := skyV g) (x2 := nI cc) h6 c2 c3
          exact ⟨c', by omega, a2, a3⟩
        · obtain ⟨c, c1, c2, c3⟩ := hg
          show (g 50).toInt.toNat - c0 ≤ 9999
          rw [c3, nI_toInt (by omega)]
          omega
        · obtain ⟨c, c1, c2, c3⟩ := hg
          unfold C_outcome
          rw [hasRoom_P H'.rm, obP, if_neg (fun z => z.1 (by decide)), H'.bu.1, h11, e50, d0, c3]
          show some (nI c - nI c0) = some (nI ((nI c).toInt.toNat - c0))
          rw [pk_sub c1, nI_toInt (by omega)]; rfl
        · obtain ⟨c, c1, c2, c3⟩ := hg
          show (g 50).toInt.toNat - c0 ≤ 9999
          rw [c3, nI_toInt (by omega)]
          omega
        · obtain ⟨c, c1, c2, c3⟩ := hg
          rw [M_byFuse_54, if_neg (fun z => by have := (nI_ltI (by omega) (by omega)).mp z; omega), if_pos rfl, midx_nI (by decide) (by decide), midx_nI (by decide) (by decide)]
          unfold M_byFuse_169
          show k32 (lN y + x11 * ((t' 11 (208 + 50)) - (t' 11 50)).toInt64) (nI q + nI 1) t' = k32 (lN y + x11 * lN ((pg t' 208 50).toInt.toNat - c0)) (nI q + nI 1) t'
          have e1 : t' 11 (208 + 50) = nI c := c3
          rw [e1, h5, d0, pk_sub c1, nI_l (by omega), c3, nI_toInt (by omega)]; rfl
      · rw [if_neg p3, if_neg (fun z => p3 z.2.2)]; exact no
    · rw [if_neg p2, if_neg (fun z => p2 z.2.1)]; exact no
  · rw [if_neg p1, if_neg (fun z => p1 z.1)]; exact no
end LUCK
