/-! what was felt, by both -/
section FELTJ
variable {s t s0 S T : sg} {b R p N h m : Nat} {g g' : Nat → Int32} {x x1 x2 x3 x4 : Int32}
/-- the feelings of hour k, from the e-th on, hold at the page g -/
def atP (s : sg) (m e k : Nat) (g : Nat → Int32) : Prop := ∀ i, e ≤ i → i < m → s 24 i = nI k → ∀ w : Nat, w < 6 → s 25 i = nI w → g w = s 26 i
/-- feelings as both hold them -/
def FF (s t : sg) (m R : Nat) : Prop := m ≤ 6 ∧ s 23 3 = nI m ∧ t 10 22 = nI m ∧ ∀ i, i < m → (s 24 i = t 17 (3 * i) ∧ s 25 i = t 17 (3 * i + 1) ∧ s 26 i = t 17 (3 * i + 2)) ∧ (∃ w : Nat, w < R ∧ s 25 i = nI w) ∧ ∃ a : Nat, a ≤ 20 ∧ s 24 i = nI a
theorem X_hold2 (H : HR s b g R) (F : FF s t m R) {k : Nat} : ∀ (n e fu : Nat), e + n = m → n < fu → (atP s m e k g → F_holdAt_2 b (nI k) s fu (nI e) = some (nI 1)) ∧ (¬ atP s m e k g → F_holdAt_2 b (nI k) s fu (nI e) = some (nI 0))
  | n, e, 0, hr, hf => absurd hf (by omega)
  | n, e, fu + 1, hr, hf => by
    have h6 := H.r6
    have hm := F.1
    rw [F_holdAt_2, F.2.1]
    by_cases c : e < m
    · obtain ⟨_, ⟨w, hw, ew⟩, a, ha, ea⟩ := F.2.2.2 e c
      obtain ⟨i1, i2⟩ := X_hold2 H F (k := k) (n - 1) (e + 1) fu (by omega) (by omega)
      have sp : atP s m e k g ↔ ((s 24 e = nI k → g w = s 26 e) ∧ atP s m (e + 1) k g) := by
        constructor
        · intro z
          exact ⟨fun y => z e (Nat.le_refl _) c y w (by omega) ew, fun i a1 a2 => z i (by omega) a2⟩
        · rintro ⟨z1, z2⟩ i a1 a2 y w' hw' ew'
          by_cases q : i = e
          · subst q
            rw [ew, nI_eq (by omega) (by omega)] at ew'
            rw [← ew']; exact z1 y
          · exact z2 i (by omega) a2 y w' hw' ew'
      rw [if_pos ((nI_ltI (by omega) (by omega)).mpr c), midx_nI (by omega) (by decide), nI_add]
      have ee : ((some e).bind fun j1 => if s 24 j1 = nI k then (some e).bind fun j2 => (midx (s 25 j2) 6).bind fun j3 => (some e).bind fun j4 => if s (b + 1) j3 = s 26 j4 then F_holdAt_2 b (nI k) s fu (nI (e + 1)) else some (nI 0) else F_holdAt_2 b (nI k) s fu (nI (e + 1))) = if s 24 e = nI k then (if g w = s 26 e then F_holdAt_2 b (nI k) s fu (nI (e + 1)) else some (nI 0)) else F_holdAt_2 b (nI k) s fu (nI (e + 1)) := by
        show (if s 24 e = nI k then (midx (s 25 e) 6).bind (fun j3 => if s (b + 1) j3 = s 26 e then F_holdAt_2 b (nI k) s fu (nI (e + 1)) else some (nI 0)) else F_holdAt_2 b (nI k) s fu (nI (e + 1))) = _
        rw [ew, midx_nI (by omega) (by decide), ← H.w hw]; rfl
      rw [ee]
      by_cases d : s 24 e = nI k
      · rw [if_pos d]
        by_cases f : g w = s 26 e
        · rw [if_pos f]
          exact ⟨fun z => i1 (sp.mp z).2, fun z => i2 (fun y => z (sp.mpr ⟨fun _ => f, y⟩))⟩
        · rw [if_neg f]
          exact ⟨fun z => absurd ((sp.mp z).1 d) f, fun _ => rfl⟩
      · rw [if_neg d]
        exact ⟨fun z => i1 (sp.mp z).2, fun z => i2 (fun y => z (sp.mpr ⟨fun q => absurd q d, y⟩))⟩
    · rw [if_neg (fun z => c ((nI_ltI (by omega) (by omega)).mp z))]
      exact ⟨fun _ => rfl, fun z => absurd (fun i a1 a2 => absurd a2 (by omega)) z⟩
theorem FF.off {S' : sg} (F : FF s t m R) (h1 : S' 23 = s 23) (h2 : S' 24 = s 24) (h3 : S' 25 = s 25) (h4 : S' 26 = s 26) : FF S' t m R := by
  unfold FF
  rw [h1, h2, h3, h4]
  exact F
theorem atP.off {S' : sg} {e k : Nat} (h2 : S' 24 = s 24) (h3 : S' 25 = s 25) (h4 : S' 26 = s 26) : atP S' m e k g ↔ atP s m e k g := by
  unfold atP
  rw [h2, h3, h4]
theorem X_holdIn {L : Nat} (hL : L ≤ 20) : ∀ (n k fu : Nat) (S : sg) (g : Nat → Int32) (h : Nat), (∀ p, 23 ≤ p → p ≤ 26 → S p = s p) → FF s t m R → HR S 53 g R → g 49 = nI h → h + n < 2 ^ 29 → k + n = L + 1 → n < fu → wp (F_holdIn_7 53 (nI L) fu (nI k) S) (fun v => ((∀ k', k ≤ k' → k' ≤ L → atP s m 0 k' (hoursV R (k' - k) g)) → v.1 = nI 1) ∧ (¬ (∀ k', k ≤ k' → k' ≤ L → atP s m 0 k' (hoursV R (k' - k) g)) → v.1 = nI 0) ∧ offH 53 S v.2)
  | n, k, 0, S, g, h, o, F, H, e, hh, hr, hf => absurd hf (by omega)
  | n, k, fu + 1, S, g, h, o, F, H, e, hh, hr, hf => by
    have h6 := H.r6
    have FS : FF S t m R := F.off (o 23 (by decide) (by decide)) (o 24 (by decide) (by decide)) (o 25 (by decide) (by decide)) (o 26 (by decide) (by decide))
    have aS : ∀ k' g', atP S m 0 k' g' ↔ atP s m 0 k' g' := fun k' g' => atP.off (o 24 (by decide) (by decide)) (o 25 (by decide) (by decide)) (o 26 (by decide) (by decide))
    rw [F_holdIn_7]
    refine wi (fun c => ?_) (fun c => ?_)
    · have hc := (nI_ltI (by omega) (by omega)).mp c
      exact ws ⟨fun _ => rfl, fun z => absurd (fun k' a1 a2 => absurd a2 (by omega)) z, offH.rf⟩
    · have hc : ¬ L < k := fun z => c ((nI_ltI (by omega) (by omega)).mpr z)
      obtain ⟨n, rfl⟩ : ∃ q, n = q + 1 := ⟨n - 1, by omega⟩
      have hm := F.1
      obtain ⟨i1, i2⟩ := X_hold2 H FS (k := k) m 0 FU (by omega) (by show m < 100000; omega)
      have e0 : k - k = 0 := by omega
      unfold F_holdAt
      by_cases d : atP S m 0 k g
      · rw [i1 d]
        refine wsb ?_
        rw [if_neg (by decide), nI_add]
        refine wb (X_passHour H e (by omega)) (fun S1 h1 => ?_)
        refine wc (X_holdIn hL n (k + 1) fu S1 (nextV R g) (h + 1) (fun p a1 a2 => (h1.2 p (by omega)).trans (o p a1 a2)) F h1.1 (nextV_49 h6 e) (by omega) (by omega) (by omega)) (fun v hv => ?_)
        have sp : (∀ k', k ≤ k' → k' ≤ L → atP s m 0 k' (hoursV R (k' - k) g)) ↔ (∀ k', k + 1 ≤ k' → k' ≤ L → atP s m 0 k' (hoursV R (k' - (k + 1)) (nextV R g))) := by
          constructor
          · intro z k' a1 a2
            have y := z k' (by omega) a2
            rw [show k' - k = (k' - (k + 1)) + 1 by omega] at y
            exact y
          · intro z k' a1 a2
            by_cases q : k' = k
            · subst q
              rw [e0]
              exact (aS _ _).mp d
            · have y := z k' (by omega) a2
              rw [show k' - k = (k' - (k + 1)) + 1 by omega]
              exact y
        exact ⟨fun z => hv.1 (sp.mp z), fun z => hv.2.1 (fun y => z (sp.mpr y)), h1.2.tr hv.2.2⟩
      · rw [i2 d]
        refine wsb ?_
        rw [if_pos (by decide)]
        refine ws ⟨fun z => absurd ((aS _ _).mpr ?_) d, fun _ => rfl, offH.rf⟩
        have y := z k (Nat.le_refl _) (by omega)
        rw [e0] at y
        exact y
theorem X_last (F : FF s t m R) : ∀ (n e fu y : Nat), y ≤ 20 → e + n = m → n < fu → wp (F_lastHour_4 s fu (nI y) (nI e)) (fun v => ∃ L : Nat, L ≤ 20 ∧ v = nI L ∧ y ≤ L ∧ ∀ i, e ≤ i → i < m → ∀ a : Nat, a ≤ 20 → s 24 i = nI a → a ≤ L)
  | n, e, 0, y, hy, hr, hf => absurd hf (by omega)
  | n, e, fu + 1, y, hy, hr, hf => by
    have hm := F.1
    rw [F_lastHour_4, F.2.1]
    refine wi (fun c => ?_) (fun c => ?_)
    · have hc := (nI_ltI (by omega) (by omega)).mp c
      obtain ⟨_, _, a, ha, ea⟩ := F.2.2.2 e hc
      refine wm rfl (by omega) (by decide) ?_
      rw [nI_add, ea]
      have e2 : (if nI y < nI a then nI a else nI y) = nI (if y < a then a else y) := by
        by_cases d : y < a
        · rw [if_pos ((nI_ltI (by omega) (by omega)).mpr d), if_pos d]
        · rw [if_neg (fun z => d ((nI_ltI (by omega) (by omega)).mp z)), if_neg d]
      rw [e2]
      have hb : (if y < a then a else y) ≤ 20 ∧ y ≤ (if y < a then a else y) ∧ a ≤ (if y < a then a else y) := by
        by_cases d : y < a
        · rw [if_pos d]; omega
        · rw [if_neg d]; omega
      refine wc (X_last F (n - 1) (e + 1) fu _ hb.1 (by omega) (by omega)) (fun v hv => ?_)
      obtain ⟨L, l1, l2, l3, l4⟩ := hv
      refine ⟨L, l1, l2, by omega, fun i a1 a2 a' ha' ea' => ?_⟩
      by_cases q : i = e
      · subst q
        rw [ea, nI_eq (by omega) (by omega)] at ea'
        omega
      · exact l4 i (by omega) a2 a' ha' ea'
    · have hc : ¬ e < m := fun z => c ((nI_ltI (by omega) (by omega)).mpr z)
      exact ws ⟨y, hy, rfl, Nat.le_refl _, fun i a1 a2 => absurd a2 (by omega)⟩
/-- the class: do the feelings hold in the house at 53? -/
theorem X_felt (o : ∀ p, 23 ≤ p → p ≤ 26 → S p = s p) (F : FF s t m R) (H : HR S 53 g R) (e : g 49 = nI h) (hh : h ≤ 999) : wp (F_holdIn 53 S) (fun v => ((∀ k', k' ≤ 20 → atP s m 0 k' (hoursV R k' g)) → v.1 = nI 1) ∧ (¬ (∀ k', k' ≤ 20 → atP s m 0 k' (hoursV R k' g)) → v.1 = nI 0) ∧ offH 53 S v.2) := by
  have hm := F.1
  have FS : FF S t m R := F.off (o 23 (by decide) (by decide)) (o 24 (by decide) (by decide)) (o 25 (by decide) (by decide)) (o 26 (by decide) (by decide))
  unfold F_holdIn F_lastHour
  refine wb (X_last FS m 0 FU 0 (by decide) (by omega) (by show m < 100000; omega)) (fun v hv => ?_)
  obtain ⟨L, l1, rfl, _, l4⟩ := hv
  refine wc (X_holdIn l1 (L + 1) 0 FU S g h o F H e (by omega) (by omega) (by show L + 1 < 100000; omega)) (fun v hv => ?_)
  have sp : (∀ k', 0 ≤ k' → k' ≤ L → atP s m 0 k' (hoursV R (k' - 0) g)) ↔ (∀ k', k' ≤ 20 → atP s m 0 k' (hoursV R k' g)) := by
    constructor
    · intro z k' a1 i b1 b2 b3
      have hk : k' ≤ L := l4 i b1 b2 k' a1 (by rw [o 24 (by decide) (by decide)]; exact b3)
      exact z k' (by omega) hk i b1 b2 b3
    · intro z k' _ a2
      exact z k' (by omega)
  exact ⟨fun z => hv.1 (sp.mpr z), fun z => hv.2.1 (fun y => z (sp.mp y)), hv.2.2⟩
/-! the reference: do the feelings hold on page 0? -/
theorem Y_67 {k12 : Int32 → Int32 → sg → Option (Int32 × sg)} {k : Nat} (F : FF s t m R) (hR : R ≤ 6) : ∀ (n e fu : Nat), e + n = m → n < fu → M_isAsSeen_67 k12 x1 (nI k) fu (nI 0) (nI e) t = (M_goesOn (nI 208) t).bind (fun s1 => k12 (nI 0) (nI k + nI 1) s1) ∧ (atP s m e k (pg t 208) → M_isAsSeen_67 k12 x1 (nI k) fu (nI 1) (nI e) t = (M_goesOn (nI 208) t).bind (fun s1 => k12 (nI 1) (nI k + nI 1) s1)) ∧ (¬ atP s m e k (pg t 208) → M_isAsSeen_67 k12 x1 (nI k) fu (nI 1) (nI e) t = (M_goesOn (nI 208) t).bind (fun s1 => k12 (nI 0) (nI k + nI 1) s1))
  | n, e, 0, hr, hf => absurd hf (by omega)
  | n, e, fu + 1, hr, hf => by
    have hm := F.1
    rw [M_isAsSeen_67, M_isAsSeen_67, F.2.2.1]
    by_cases c : e < m
    · obtain ⟨⟨f1, f2, f3⟩, ⟨w, hw, ew⟩, a, ha, ea⟩ := F.2.2.2 e c
      obtain ⟨i0, i1, i2⟩ := Y_67 (k12 := k12) F hR (n - 1) (e + 1) fu (by omega) (by omega)
      have sp : atP s m e k (pg t 208) ↔ ((s 24 e = nI k → pg t 208 w = s 26 e) ∧ atP s m (e + 1) k (pg t 208)) := by
        constructor
        · intro z
          exact ⟨fun y => z e (Nat.le_refl _) c y w (by omega) ew, fun i a1 a2 => z i (by omega) a2⟩
        · rintro ⟨z1, z2⟩ i a1 a2 y w' hw' ew'
          by_cases q : i = e
          · subst q
            rw [ew, nI_eq (by omega) (by omega)] at ew'
            rw [← ew']; exact z1 y
          · exact z2 i (by omega) a2 y w' hw' ew'
      rw [if_pos ((nI_ltI (by omega) (by omega)).mpr c), if_pos (show nI 0 = 0 from rfl), if_pos ((nI_ltI (by omega) (by omega)).mpr c), if_neg (show ¬ nI 1 = 0 by decide), nI_add]
      have ee : ((midx (nI 3 * nI e) 18).bind fun j1 => if t 17 j1 = nI k then (midx (nI 3 * nI e + nI 1) 18).bind fun j2 => (midx (nI 208 + t 17 j2) 312).bind fun j3 => (midx (nI 3 * nI e + nI 2) 18).bind fun j4 => if t 11 j3 = t 17 j4 then M_isAsSeen_127 k12 (M_isAsSeen_67 k12 x1 (nI k) fu) x1 (nI k) (nI e) t else M_isAsSeen_67 k12 x1 (nI k) fu (nI 0) (nI (e + 1)) t else M_isAsSeen_127 k12 (M_isAsSeen_67 k12 x1 (nI k) fu) x1 (nI k) (nI e) t) = if s 24 e = nI k then (if pg t 208 w = s 26 e then M_isAsSeen_67 k12 x1 (nI k) fu (nI 1) (nI (e + 1)) t else M_isAsSeen_67 k12 x1 (nI k) fu (nI 0) (nI (e + 1)) t) else M_isAsSeen_67 k12 x1 (nI k) fu (nI 1) (nI (e + 1)) t := by
        unfold M_isAsSeen_127
        rw [pk_mul, nI_add, nI_add, nI_add, midx_nI (show 3 * e < 18 by omega) (by decide), midx_nI (show 3 * e + 1 < 18 by omega) (by decide), midx_nI (show 3 * e + 2 < 18 by omega) (by decide)]
        show (if t 17 (3 * e) = nI k then (midx (nI 208 + t 17 (3 * e + 1)) 312).bind (fun j3 => if t 11 j3 = t 17 (3 * e + 2) then M_isAsSeen_67 k12 x1 (nI k) fu (nI 1) (nI (e + 1)) t else M_isAsSeen_67 k12 x1 (nI k) fu (nI 0) (nI (e + 1)) t) else M_isAsSeen_67 k12 x1 (nI k) fu (nI 1) (nI (e + 1)) t) = _
        rw [← f1, ← f2, ← f3, ew, nI_add, midx_nI (show 208 + w < 312 by omega) (by decide)]
        rfl
      rw [ee]
      refine ⟨i0, ?_⟩
      by_cases d : s 24 e = nI k
      · rw [if_pos d]
        by_cases f : pg t 208 w = s 26 e
        · rw [if_pos f]
          exact ⟨fun z => i1 (sp.mp z).2, fun z => i2 (fun y => z (sp.mpr ⟨fun _ => f, y⟩))⟩
        · rw [if_neg f]
          exact ⟨fun z => absurd ((sp.mp z).1 d) f, fun _ => i0⟩
      · rw [if_neg d]
        exact ⟨fun z => i1 (sp.mp z).2, fun z => i2 (fun y => z (sp.mpr ⟨fun q => absurd q d, y⟩))⟩
    · rw [if_neg (fun z => c ((nI_ltI (by omega) (by omega)).mp z)), if_neg (fun z => c ((nI_ltI (by omega) (by omega)).mp z))]
      exact ⟨rfl, fun _ => rfl, fun z => absurd (fun i a1 a2 => absurd a2 (by omega)) z⟩
def offI (t t' : sg) : Prop := ∀ p j, p ≠ 18 → p ≠ 16 → ¬ (p = 11 ∧ 208 ≤ j ∧ j < 260) → t' p j = t p j
theorem offI.rf : offI t t := fun _ _ _ _ _ => rfl
theorem offI.tr {t' t'' : sg} (h1 : offI t t') (h2 : offI t' t'') : offI t t'' := fun p j a b c => (h2 p j a b c).trans (h1 p j a b c)
theorem FF.tt {t' : sg} (F : FF s t m R) (o : offI t t') : FF s t' m R := by
  refine ⟨F.1, F.2.1, (o 10 22 (by decide) (by decide) (by omega)).trans F.2.2.1, fun i hi => ?_⟩
  rw [o 17 _ (by decide) (by decide) (by omega), o 17 _ (by decide) (by decide) (by omega), o 17 _ (by decide) (by decide) (by omega)]
  exact F.2.2.2 i hi
theorem FF.e {t' : sg} (F : FF s t m R) (h1 : t' 10 22 = t 10 22) (h2 : t' 17 = t 17) : FF s t' m R := by
  refine ⟨F.1, F.2.1, h1.trans F.2.2.1, fun i hi => ?_⟩
  rw [h2]
  exact F.2.2.2 i hi
theorem Y_21 {k12 : Int32 → Int32 → sg → Option (Int32 × sg)} {a k : Nat} {f : Int32} (ha : a < 10) (hk : k ≤ 20) (hR : R ≤ 6) : ∀ (n r fu : Nat) (t : sg), t 10 1 = nI R → r + n = R → n < fu → ∃ t', M_isAsSeen_21 k12 (nI a) f (nI k) fu (nI r) t = M_isAsSeen_67 k12 (nI a) (nI k) FU f (nI 0) t' ∧ (∀ p, p ≠ 18 → t' p = t p) ∧ (∀ q, r ≤ q → q < R → t' 18 (126 * a + 6 * k + q) = pg t 208 q) ∧ (∀ j, ¬ (126 * a + 6 * k + r ≤ j ∧ j < 126 * a + 6 * k + R) → t' 18 j = t 18 j)
  | n, r, 0, t, e, hr, hf => absurd hf (by omega)
  | n, r, fu + 1, t, e, hr, hf => by
    rw [M_isAsSeen_21, e]
    by_cases c : r < R
    · rw [if_pos ((nI_ltI (by omega) (by omega)).mpr c), nI_add, midx_nI (by omega) (by decide), pk_mul, pk_mul, nI_add, nI_add, midx_nI (by omega) (by decide), nI_add]
      obtain ⟨t', a1, a2, a3, a4⟩ := Y_21 (k12 := k12) (f := f) ha hk hR (n - 1) (r + 1) fu (up t 18 (126 * a + 6 * k + r) (t 11 (208 + r))) ((up_p (by decide)).trans e) (by omega) (by omega)
      refine ⟨t', a1, fun p hp => (a2 p hp).trans (up_off hp), fun q q1 q2 => ?_, fun j hj => ?_⟩
      · by_cases z : q = r
        · subst z
          rw [a4 _ (by omega), up_eq]; rfl
        · rw [a3 q (by omega) q2]
          show (up t 18 (126 * a + 6 * k + r) (t 11 (208 + r))) 11 (208 + q) = t 11 (208 + q)
          rw [up_p (by decide)]
      · rw [a4 j (by omega), up_k (by omega)]
    · rw [if_neg (fun z => c ((nI_ltI (by omega) (by omega)).mp z))]
      exact ⟨t, rfl, fun _ _ => rfl, fun q q1 q2 => absurd q2 (by omega), fun _ _ => rfl⟩
/-- what isAsSeen leaves, from hour k on -/
def QS (s : sg) (m R a k : Nat) (t : sg) (f : Int32) (v : Int32 × sg) : Prop := (f = nI 1 → (∀ k', k ≤ k' → k' ≤ 20 → atP s m 0 k' (hoursV R (k' - k) (pg t 208))) → v.1 = nI 1) ∧ (¬ (f = nI 1 ∧ ∀ k', k ≤ k' → k' ≤ 20 → atP s m 0 k' (hoursV R (k' - k) (pg t 208))) → v.1 = nI 0) ∧ (∀ k', k ≤ k' → k' ≤ 20 → ∀ q, q < R → v.2 18 (126 * a + 6 * k' + q) = hoursV R (k' - k) (pg t 208) q) ∧ (∀ j, ¬ (126 * a + 6 * k ≤ j ∧ j < 126 * a + 126) → v.2 18 j = t 18 j) ∧ offI t v.2
theorem Y_12 {a : Nat} (ha : a < 10) (hR : R ≤ 6) : ∀ (n k fu h : Nat) (f : Int32) (t : sg), (f = nI 0 ∨ f = nI 1) → FF s t m R → t 10 1 = nI R → pg t 208 49 = nI h → h + n < 2 ^ 29 → k + n = 21 → n < fu → wp (M_isAsSeen_12 (nI a) fu f (nI k) t) (QS s m R a k t f)
  | n, k, 0, h, f, t, hf1, F, e, e9, hh, hr, hf => absurd hf (by omega)
  | n, k, fu + 1, h, f, t, hf1, F, e, e9, hh, hr, hf => by
    have hm := F.1
    rw [M_isAsSeen_12]
    refine wi (fun c => ?_) (fun c => ?_)
    · have hc := (nI_ltI (by decide) (by omega)).mp c
      have hf2 : f = 0 ∨ f = 1 := hf1
      rw [if_pos hf2]
      refine ws ⟨fun z _ => z, fun z => ?_, fun k' a1 a2 => absurd a2 (by omega), fun _ _ => rfl, offI.rf⟩
      rcases hf1 with w | w
      · exact w
      · exact absurd ⟨w, fun k' a1 a2 => absurd a2 (by omega)⟩ z
    · have hc : ¬ 20 < k := fun z => c ((nI_ltI (by decide) (by omega)).mpr z)
      obtain ⟨n, rfl⟩ : ∃ q, n = q + 1 := ⟨n - 1, by omega⟩
      obtain ⟨t1, a1, a2, a3, a4⟩ := Y_21 (k12 := M_isAsSeen_12 (nI a) fu) (f := f) (k := k) ha (by omega) hR R 0 FU t e (by omega) (by show R < 100000; omega)
      rw [a1]
      have o1 : offI t t1 := fun p j p1 _ _ => by rw [a2 p p1]
      have F1 : FF s t1 m R := F.tt o1
      have e1 : t1 10 1 = nI R := by rw [a2 10 (by decide)]; exact e
      have p1 : pg t1 208 = pg t 208 := pgE (a2 11 (by decide))
      obtain ⟨y0, y1, y2⟩ := Y_67 (k12 := M_isAsSeen_12 (nI a) fu) (x1 := nI a) (k := k) F1 hR m 0 FU (by omega) (by show m < 100000; omega)
      obtain ⟨t2, et, g2, o2⟩ := Y_goesOn (t := t1) (p := 208) (by decide) hR e1 (by rw [p1]; exact e9) (by omega)
      have o2' : offI t1 t2 := fun p j _ q2 q3 => o2 p j (by omega) q2
      have F2 : FF s t2 m R := F1.tt o2'
      have e2 : t2 10 1 = nI R := (o2 10 1 (by omega) (by decide)).trans e1
      have g2' : pg t2 208 = nextV R (pg t 208) := by rw [g2, p1]
      have t18 : ∀ j, t2 18 j = t1 18 j := fun j => o2 18 j (by omega) (by decide)
      have e0 : k - k = 0 := by omega
      have sp : (∀ k', k ≤ k' → k' ≤ 20 → atP s m 0 k' (hoursV R (k' - k) (pg t 208))) ↔ (atP s m 0 k (pg t 208) ∧ ∀ k', k + 1 ≤ k' → k' ≤ 20 → atP s m 0 k' (hoursV R (k' - (k + 1)) (nextV R (pg t 208)))) := by
        constructor
        · intro z
          refine ⟨?_, fun k' b1 b2 => ?_⟩
          · have y := z k (Nat.le_refl _) (by omega)
            rw [e0] at y
            exact y
          · have y := z k' (by omega) b2
            rw [show k' - k = (k' - (k + 1)) + 1 by omega] at y
            exact y
        · rintro ⟨z1, z2⟩ k' b1 b2
          by_cases q : k' = k
          · subst q
            rw [e0]; exact z1
          · have y := z2 k' (by omega) b2
            rw [show k' - k = (k' - (k + 1)) + 1 by omega]
            exact y
      have rest : ∀ f' : Int32, (f' = nI 0 ∨ f' = nI 1) → (f' = nI 1 ↔ (f = nI 1 ∧ atP s m 0 k (pg t 208))) → wp ((M_goesOn (nI 208) t1).bind (fun s1 => M_isAsSeen_12 (nI a) fu f' (nI k + nI 1) s1)) (QS s m R a k t f) := fun f' hf' hi => by
        rw [et, nI_add]
        refine wsb (wc (Y_12 ha hR n (k + 1) fu (h + 1) f' t2 hf' F2 e2 (by rw [g2']; exact nextV_49 hR e9) (by omega) (by omega) (by omega)) (fun v hv => ?_))
        unfold QS at hv ⊢
        rw [g2'] at hv
        refine ⟨fun z1 z2 => hv.1 (hi.mpr ⟨z1, (sp.mp z2).1⟩) (sp.mp z2).2, fun z => hv.2.1 (fun y => z ⟨(hi.mp y.1).1, sp.mpr ⟨(hi.mp y.1).2, y.2⟩⟩), fun k' b1 b2 q hq => ?_, fun j hj => ?_, o1.tr (o2'.tr hv.2.2.2.2)⟩
        · by_cases w : k' = k
          · subst w
            rw [hv.2.2.2.1 _ (by omega), t18, a3 q (by omega) hq, e0]; rfl
          · rw [hv.2.2.1 k' (by omega) b2 q hq, show k' - k = (k' - (k + 1)) + 1 by omega]; rfl
        · rw [hv.2.2.2.1 j (by omega), t18, a4 j (by omega)]
      rcases hf1 with w | w
      · rw [w] at rest ⊢
        rw [y0]
        exact rest _ (Or.inl rfl) ⟨fun z => absurd z (by decide), fun z => absurd z.1 (by decide)⟩
      · rw [w] at rest ⊢
        rw [p1] at y1 y2
        by_cases d : atP s m 0 k (pg t 208)
        · rw [y1 d]
          exact rest _ (Or.inr rfl) ⟨fun _ => ⟨rfl, d⟩, fun _ => rfl⟩
        · rw [y2 d]
          exact rest _ (Or.inl rfl) ⟨fun z => absurd z (by decide), fun z => absurd z.2 d⟩
/-- one candidate: both ask the same of it -/
theorem K_cand {a : Nat} (ha : a < 10) (o : ∀ p, 23 ≤ p → p ≤ 26 → S p = s p) (F : FF s T m R) (H : HR S 53 g' R) (e : T 10 1 = nI R) (ep : ∀ i, i < 52 → pg T 0 i = g' i) (e9 : g' 49 = nI h) (hh : h ≤ 999) : w2 (F_holdIn 53 S) (M_isAsSeen (nI a) T) (fun u v => u.1 = v.1 ∧ (u.1 = nI 0 ∨ u.1 = nI 1) ∧ offH 53 S u.2 ∧ offI T v.2 ∧ (∀ k', k' ≤ 20 → ∀ q, q < R → v.2 18 (126 * a + 6 * k' + q) = hoursV R k' (pgc T 0) q) ∧ (∀ j, ¬ (126 * a ≤ j ∧ j < 126 * a + 126) → v.2 18 j = T 18 j)) := by
  have h6 := H.r6
  have H2 : HR S 53 (pgc T 0) R := HR.e H (fun i hi => by rw [pgc_e hi]; exact ep i hi)
  have e9' : pgc T 0 49 = nI h := by rw [pgc_e (by decide), ep 49 (by decide)]; exact e9
  unfold M_isAsSeen
  rw [copies_eq (by decide) (by decide) (by omega)]
  refine w2sr ?_
  have oc : offI T (cpM T 0 208 52) := fun p j _ _ q => cpM_ne (by omega)
  refine w2.mk (X_felt o F H2 e9' hh) (Y_12 (s := s) (m := m) (R := R) ha h6 21 0 FU h (nI 1) (cpM T 0 208 52) (Or.inr rfl) (F.tt oc) ((cpM_ne (Or.inl (by decide))).trans e) e9' (by omega) (by decide) (by decide)) (fun u v hu hv => ?_)
  obtain ⟨v1, v2, v3, v4, v5⟩ := hv
  have sp : (∀ k', 0 ≤ k' → k' ≤ 20 → atP s m 0 k' (hoursV R (k' - 0) (pg (cpM T 0 208 52) 208))) ↔ (∀ k', k' ≤ 20 → atP s m 0 k' (hoursV R k' (pgc T 0))) := ⟨fun z k' a2 => z k' (by omega) a2, fun z k' _ a2 => z k' a2⟩
  have rows : (∀ k', k' ≤ 20 → ∀ q, q < R → v.2 18 (126 * a + 6 * k' + q) = hoursV R k' (pgc T 0) q) ∧ (∀ j, ¬ (126 * a ≤ j ∧ j < 126 * a + 126) → v.2 18 j = T 18 j) := by
    refine ⟨fun k' b1 q hq => v3 k' (by omega) b1 q hq, fun j hj => ?_⟩
    rw [v4 j (by omega)]
    exact cpM_ne (Or.inl (by decide))
  by_cases P : ∀ k', k' ≤ 20 → atP s m 0 k' (hoursV R k' (pgc T 0))
  · have w1 := hu.1 P
    have w2' := v1 rfl (sp.mpr P)
    exact ⟨w1.trans w2'.symm, Or.inr w1, hu.2.2, oc.tr v5, rows.1, rows.2⟩
  · have w1 := hu.2.1 P
    have w2' := v2 (fun z => P (sp.mp z.2))
    exact ⟨w1.trans w2'.symm, Or.inl w1, hu.2.2, oc.tr v5, rows.1, rows.2⟩
theorem or_n0 (x : Int32) : x ||| nI 0 = x := by rw [nI_0, Int32.or_zero]
theorem K_kinds {j : Nat} (hj : j < R) (H0 : HR s0 11 g R) (e9 : g 49 = nI h) (hh : h ≤ 999) (ht : 0 < g (18 + j)) : ∀ (n r fu fu' : Nat) (s t : sg) (y : Int32), offT s0 s → FF s0 t m R → t 10 1 = nI R → (∀ i, i < 52 → i ≠ 18 + j → pg t 0 i = g i) → r + n = 4 → n < fu → n < fu' → w2 (C_kinds_31 (nI j) fu y (nI r) s) (M_numbersAt_14 (nI (18 + j)) (nI 1) (nI 4) x4 fu' y (nI r) t) (fun a b => a.1 = b.1)
  | n, r, 0, fu', s, t, y, oS, F, e, hp, hr, hf, hf' => absurd hf (by omega)
  | n, r, fu + 1, 0, s, t, y, oS, F, e, hp, hr, hf, hf' => absurd hf' (by omega)
  | n, r, fu + 1, fu' + 1, s, t, y, oS, F, e, hp, hr, hf, hf' => by
    have h6 := H0.r6
    rw [C_kinds_31, M_numbersAt_14]
    by_cases c : r < 4
    · rw [if_neg (fun z => by have := (nI_ltI (by decide) (by omega)).mp z; omega), if_pos ((nI_ltI (by omega) (by decide)).mpr c), cpNow_eq, nI_add r 1, nI_add 1 r]
      refine w2sl (w2l rfl (by omega) (by decide) (w2sl (w2r rfl (by omega) (by decide) (w2sr ?_))))
      have H11 : HR s 11 g R := H0.off (fun p q1 q2 => oS p (by omega))
      have Hc : HR (cpH s 53 11) 53 g R := H11.copy
      have H1 : HR (up (cpH s 53 11) (53 + 4) j (nI r)) 53 (gu g (18 + j) (nI r + nI 1)) R := Hc.set4 hj (by omega) ((Hc.to j hj).2.2 ht)
      rw [nI_add] at H1
      have o3 : ∀ p, 23 ≤ p → p ≤ 26 → (up (cpH s 53 11) 57 j (nI r)) p = s0 p := fun p a1 a2 => by rw [up_off (by omega), cpH_off p (by omega)]; exact oS p (by omega)
      have F1 : FF s0 (up t 11 (18 + j) (nI (1 + r))) m R := F.e (up_p (by decide)) (up_off (by decide))
      refine w2b (K_cand (a := r) (by omega) o3 F1 H1 ((up_p (by decide)).trans e) (fun i hi => ?_) ?_ hh) (fun u v q => ?_)
      · rw [pg_up0, show 1 + r = r + 1 by omega]
        by_cases z : i = 18 + j
        · rw [z, gu_eq, gu_eq]
        · rw [gu_ne z, gu_ne z]; exact hp i hi z
      · rw [gu_ne (by omega)]; exact e9
      · obtain ⟨q1, q2, q3, q4, _, _⟩ := q
        rw [← q1]
        have next : ∀ y' : Int32, w2 (C_kinds_31 (nI j) fu y' (nI (r + 1)) u.2) (M_numbersAt_14 (nI (18 + j)) (nI 1) (nI 4) x4 fu' y' (nI (r + 1)) v.2) (fun a b => a.1 = b.1) := fun y' => by
          refine K_kinds hj H0 e9 hh ht (n - 1) (r + 1) fu fu' u.2 v.2 y' (fun p hp' => ?_) (F1.tt q4) ?_ (fun i hi hne => ?_) (by omega) (by omega) (by omega)
          · rw [q3 p (by omega), up_off (by omega), cpH_off p (by omega)]; exact oS p hp'
          · rw [q4 10 1 (by decide) (by decide) (by omega), up_p (by decide)]; exact e
          · rw [pg0, q4 11 i (by decide) (by decide) (by omega), up_k hne, ← pg0 (t := t)]; exact hp i hi hne
        rw [or_n0]
        rcases q2 with q2 | q2
        · rw [q2, if_pos (by decide), if_pos (by decide)]; exact next _
        · rw [q2, if_neg (by decide), if_neg (by decide)]; exact next _
    · rw [if_pos ((nI_ltI (by decide) (by omega)).mpr (by omega)), if_neg (fun z => c ((nI_ltI (by omega) (by decide)).mp z))]
      exact w2r rfl (by omega) (by decide) (w2sr (w2s rfl))
theorem RG.ff (G : RG s t R) (I : IC s) : ∃ m, FF s t m R := by
  obtain ⟨m, h1, h2, h3, h4⟩ := G.fe
  refine ⟨m, h1, h2, h3, fun i hi => ⟨(h4 i hi).1, (h4 i hi).2, ?_⟩⟩
  exact (I.2.2.1.2 i (by omega)).2
theorem J_kinds (F : RF s t) : w2 (C_kinds x1 s) (M_kinds x1 t) (fun a b => a.1 = b.1) := by
  obtain ⟨⟨R, G⟩, I, M⟩ := F
  have H := G.h
  have h6 := H.r6
  obtain ⟨R', h, hh, Hs⟩ := I.1
  obtain ⟨m, Ff⟩ := G.ff I
  unfold C_kinds M_kinds
  refine w2P (hasRoom_P H.rm) (isRoom_P G.r h6) (fun _ => w2s rfl) (fun c0 => ?_)
  obtain ⟨j, hj, rfl⟩ := room_j h6 c0
  refine w2P (hasTongue_eq H hj) (hasT_eq (by omega)) (fun _ => w2s rfl) (fun c4 => ?_)
  unfold M_numbersAt
  rw [nI_add, midx_nI (by omega) (by decide)]
  have k := K_kinds (s0 := s) (x4 := t 11 (18 + j)) hj H (G.hh Hs) hh c4 4 0 FU FU s t (nI 0) (fun _ _ => rfl) Ff G.r (fun _ _ _ => rfl) (by decide) (by decide) (by decide)
  obtain ⟨a, b, ea, eb, e⟩ := k
  refine ⟨a, (b.1, b.2), ea, ?_, e⟩
  show (M_numbersAt_14 (nI (18 + j)) (nI 1) (nI 4) (t 11 (18 + j)) FU (nI 0) (nI 0) t).bind (fun v3 => some (v3.1, v3.2)) = some (b.1, b.2)
  rw [eb]; rfl
theorem or10 : ∀ r : Nat, r < 10 → ∀ u : Nat, u < 2 ^ r → (nI u ||| (nI 1 <<< (nI r &&& 31))) = nI (u + 2 ^ r) ∧ u + 2 ^ r < 2 ^ (r + 1) := by decide +kernel
theorem neg2 {r : Nat} : (-2 : Int32) + nI r = nI r - nI 2 := by
  rw [Int32.add_comm, Int32.sub_eq_add_neg]; rfl
theorem K_leaks {j : Nat} (hj : j + 1 < R) (H0 : HR s0 11 g R) (e9 : g 49 = nI h) (hh : h ≤ 999) : ∀ (n r fu fu' : Nat) (s t : sg) (y : Int32), (∃ v : Nat, v < 2 ^ r ∧ y = nI v) → offT s0 s → FF s0 t m R → t 10 1 = nI R → (∀ i, i < 52 → i ≠ 36 + j → pg t 0 i = g i) → (∀ a, a < r → ∀ k', k' ≤ 20 → ∀ q, q < R → ∃ c : Nat → Int32, (∀ i, i < 52 → c i = gu g (36 + j) (nI a - nI 2) i) ∧ t 18 (126 * a + 6 * k' + q) = hoursV R k' c q) → r + n = 10 → n < fu → n < fu' → w2 (C_leaksAsFelt_4 (nI j) fu y (nI r) s) (M_numbersAt_14 (nI (36 + j)) (-2) (nI 10) (g (36 + j)) fu' y (nI r) t) (fun a b => a.1 = b.1 ∧ (∃ v : Nat, v < 1024 ∧ a.1 = nI v) ∧ offT s0 a.2 ∧ b.2 10 1 = nI R ∧ (∀ i, i < 52 → pg b.2 0 i = g i) ∧ ∀ a', a' < 10 → ∀ k', k' ≤ 20 → ∀ q, q < R → ∃ c : Nat → Int32, (∀ i, i < 52 → c i = gu g (36 + j) (nI a' - nI 2) i) ∧ b.2 18 (126 * a' + 6 * k' + q) = hoursV R k' c q)
  | n, r, 0, fu', s, t, y, hy, oS, F, e, hp, rw18, hr, hf, hf' => absurd hf (by omega)
  | n, r, fu + 1, 0, s, t, y, hy, oS, F, e, hp, rw18, hr, hf, hf' => absurd hf' (by omega)
  | n, r, fu + 1, fu' + 1, s, t, y, hy, oS, F, e, hp, rw18, hr, hf, hf' => by
    have h6 := H0.r6
    rw [C_leaksAsFelt_4, M_numbersAt_14]
    by_cases c : r < 10
    · rw [if_neg (fun z => by have := (nI_ltI (by decide) (by omega)).mp z; omega), if_pos ((nI_ltI (by omega) (by decide)).mpr c), cpNow_eq, nI_add r 1, neg2]
      refine w2sl (w2l rfl (by omega) (by decide) (w2sl (w2r rfl (by omega) (by decide) (w2sr ?_))))
      have H11 : HR s 11 g R := H0.off (fun p q1 q2 => oS p (by omega))
      have H1 : HR (up (cpH s 53 11) (53 + 6) j (nI r)) 53 (gu g (36 + j) (nI r - nI 2)) R := (H11.copy (b := 53)).set6 hj (by rw [gu_eq]; exact sub_add _ _) (fun i hi => gu_ne hi)
      have o3 : ∀ p, 23 ≤ p → p ≤ 26 → (up (cpH s 53 11) 59 j (nI r)) p = s0 p := fun p a1 a2 => by rw [up_off (by omega), cpH_off p (by omega)]; exact oS p (by omega)
      have F1 : FF s0 (up t 11 (36 + j) (nI r - nI 2)) m R := F.e (up_p (by decide)) (up_off (by decide))
      have ep : ∀ i, i < 52 → pg (up t 11 (36 + j) (nI r - nI 2)) 0 i = gu g (36 + j) (nI r - nI 2) i := fun i hi => by
        rw [pg_up0]
        by_cases z : i = 36 + j
        · rw [z, gu_eq, gu_eq]
        · rw [gu_ne z, gu_ne z]; exact hp i hi z
      refine w2b (K_cand (a := r) c o3 F1 H1 ((up_p (by decide)).trans e) ep ?_ hh) (fun u v q => ?_)
      · rw [gu_ne (by omega)]; exact e9
      · obtain ⟨q1, q2, q3, q4, q5, q6⟩ := q
        rw [← q1]
        have next : ∀ y' : Int32, (∃ v : Nat, v < 2 ^ (r + 1) ∧ y' = nI v) → w2 (C_leaksAsFelt_4 (nI j) fu y' (nI (r + 1)) u.2) (M_numbersAt_14 (nI (36 + j)) (-2) (nI 10) (g (36 + j)) fu' y' (nI (r + 1)) v.2) (fun a b => a.1 = b.1 ∧ (∃ v : Nat, v < 1024 ∧ a.1 = nI v) ∧ offT s0 a.2 ∧ b.2 10 1 = nI R ∧ (∀ i, i < 52 → pg b.2 0 i = g i) ∧ ∀ a', a' < 10 → ∀ k', k' ≤ 20 → ∀ q, q < R → ∃ c : Nat → Int32, (∀ i, i < 52 → c i = gu g (36 + j) (nI a' - nI 2) i) ∧ b.2 18 (126 * a' + 6 * k' + q) = hoursV R k' c q) := fun y' hy' => by
          refine K_leaks hj H0 e9 hh (n - 1) (r + 1) fu fu' u.2 v.2 y' hy' (fun p hp' => ?_) (F1.tt q4) ?_ (fun i hi hne => ?_) (fun a ha k' hk' q hq => ?_) (by omega) (by omega) (by omega)
          · rw [q3 p (by omega), up_off (by omega), cpH_off p (by omega)]; exact oS p hp'
          · rw [q4 10 1 (by decide) (by decide) (by omega), up_p (by decide)]; exact e
          · rw [pg0, q4 11 i (by decide) (by decide) (by omega), up_k hne, ← pg0 (t := t)]; exact hp i hi hne
          · by_cases z : a = r
            · subst z
              refine ⟨pgc (up t 11 (36 + j) (nI a - nI 2)) 0, fun i hi => ?_, q5 k' hk' q hq⟩
              rw [pgc_e hi]; exact ep i hi
            · obtain ⟨c', c1, c2⟩ := rw18 a (by omega) k' hk' q hq
              refine ⟨c', c1, ?_⟩
              rw [q6 _ (by omega), up_p (by decide)]; exact c2
        rw [or_n0]
        rcases q2 with q2 | q2
        · rw [q2, if_pos (by decide), if_pos (by decide)]
          obtain ⟨w, w1, w2'⟩ := hy
          exact next _ ⟨w, by rw [Nat.pow_succ]; omega, w2'⟩
        · rw [q2, if_neg (by decide), if_neg (by decide)]
          obtain ⟨w, w1, rfl⟩ := hy
          obtain ⟨o1, o2⟩ := or10 r c w w1
          exact next _ ⟨w + 2 ^ r, o2, o1⟩
    · rw [if_pos ((nI_ltI (by decide) (by omega)).mpr (by omega)), if_neg (fun z => c ((nI_ltI (by omega) (by decide)).mp z))]
      refine w2r rfl (by omega) (by decide) (w2sr (w2s ⟨rfl, ?_, oS, ?_, fun i hi => ?_, fun a ha k' hk' q hq => ?_⟩))
      · obtain rfl : r = 10 := by omega
        exact hy
      · show up t 11 (36 + j) (g (36 + j)) 10 1 = nI R
        rw [up_p (by decide)]; exact e
      · rw [pg_up0]
        by_cases z : i = 36 + j
        · rw [z, gu_eq]
        · rw [gu_ne z]; exact hp i hi z
      · obtain ⟨c', c1, c2⟩ := rw18 a (by omega) k' hk' q hq
        refine ⟨c', c1, ?_⟩
        show up t 11 (36 + j) (g (36 + j)) 18 (126 * a + 6 * k' + q) = _
        rw [up_p (by decide)]; exact c2
theorem J_lets (F : RF s t) : w2 (C_lets x1 s) (M_lets x1 t) (fun a b => a.1 = b.1) := by
  obtain ⟨⟨R, G⟩, I, M⟩ := F
  have H := G.h
  have h6 := H.r6
  obtain ⟨R', h, hh, Hs⟩ := I.1
  obtain ⟨m, Ff⟩ := G.ff I
  unfold C_lets M_lets C_leaksAsFelt
  refine w2P (hasWall_P H.rm) (isWall_P G.r h6) (fun _ => w2s rfl) (fun c0 => ?_)
  obtain ⟨j, hj, rfl⟩ := wall_j h6 c0
  unfold M_numbersAt
  rw [nI_add, midx_nI (by omega) (by decide)]
  obtain ⟨a, b, ea, eb, e, _⟩ := K_leaks (s0 := s) hj H (G.hh Hs) hh 10 0 FU FU s t (nI 0) ⟨0, by decide, rfl⟩ (fun _ _ => rfl) Ff G.r (fun _ _ _ => rfl) (fun a ha => absurd ha (by omega)) (by decide) (by decide) (by decide)
  have e36 : pg t 0 (36 + j) = t 11 (36 + j) := pg0
  rw [e36] at eb
  refine ⟨(a.1, a.2), (b.1, b.2), by rw [ea]; rfl, ?_, e⟩
  show (M_numbersAt_14 (nI (36 + j)) (-2) (nI 10) (t 11 (36 + j)) FU (nI 0) (nI 0) t).bind (fun v2 => some (v2.1, v2.2)) = some (b.1, b.2)
  rw [eb]; rfl
end FELTJ
