/-! what class and reference hold in common -/
def offG (t t' : sg) : Prop := ∀ q k, ¬ (q = 11 ∧ (k < 52 ∨ 156 ≤ k)) → q ≠ 16 → q ≠ 18 → ¬ (q = 10 ∧ (k = 19 ∨ k = 20)) → t' q k = t q k
theorem offG.rf {t : sg} : offG t t := fun _ _ _ _ _ _ => rfl
theorem offG.tr {t t' t'' : sg} (h1 : offG t t') (h2 : offG t' t'') : offG t t'' := fun q k a b c d => (h2 q k a b c d).trans (h1 q k a b c d)
theorem offP.g {t t' : sg} (o : offP 0 t t') : offG t t' := fun q k a b _ _ => o q k (fun w => a ⟨w.1, by omega⟩) b
theorem offM.g {t t' : sg} (o : offM t t') : offG t t' := fun q k a b c d => o q k (fun w => a ⟨w.1, Or.inr w.2⟩) b c d
theorem offG.u {t : sg} {k : Nat} {v : Int32} (hk : k < 52) : offG t (up t 11 k v) := fun q j a _ _ _ => if_neg (fun w => a ⟨w.1, by omega⟩)
def enL : List Nat := [0, 5, 10, 14, 18, 22, 26, 29]
def leL : List Nat := [112, 108, 97, 105, 110, 113, 117, 105, 99, 107, 108, 97, 122, 121, 98, 101, 110, 116, 114, 111, 111, 109, 119, 97, 108, 108, 111, 117, 116]
def LT (t : sg) : Prop := (∀ j, j < 8 → t 14 j = nI (enL.getD j 0)) ∧ ∀ j, j < 29 → t 15 j = nI (leL.getD j 0)
def KP (s t : sg) (R : Nat) : Prop := ∀ k, k < 2 → (s 20 k = nI 0 ∧ t 19 k = nI 0) ∨ (s 20 k = nI 1 ∧ t 19 k = nI 1 ∧ HR s (37 + 8 * k) (pg t (52 * (k + 1))) R)
def TP (s t : sg) : Prop := ∃ L : Nat, L ≤ 160 ∧ s 27 1 = nI L ∧ t 10 8 = nI L ∧ ∀ i, i < L → ∃ c : Nat, c < 128 ∧ s 28 i = nI c ∧ t 13 i = nI c
def FE (s t : sg) (R : Nat) : Prop := ∃ m : Nat, m ≤ 6 ∧ s 23 3 = nI m ∧ t 10 22 = nI m ∧ ∀ i, i < m → (s 24 i = t 17 (3 * i) ∧ s 25 i = t 17 (3 * i + 1) ∧ s 26 i = t 17 (3 * i + 2)) ∧ ∃ w : Nat, w < R ∧ s 25 i = nI w
def SH (s t : sg) : Prop := ∀ k, k < 4 → ((s (133 + 2 * k) 0 = -1 ∧ t 20 k = -4) ∨ ∃ l : Nat, l < 3 ∧ s (133 + 2 * k) 0 = nI l ∧ t 20 k = nI l) ∧ ∃ n : Nat, n ≤ 40 ∧ s (133 + 2 * k) 1 = nI n ∧ t 21 k = nI n ∧ ∀ i, i < n → s (133 + 2 * k + 1) i = t 22 (40 * k + i)
def RG (s t : sg) (R : Nat) : Prop := t 10 1 = nI R ∧ HR s 11 (pg t 0) R ∧ KP s t R ∧ TP s t ∧ FE s t R ∧ SH s t ∧ s 10 7 = t 10 28 ∧ LT t
def RF (s t : sg) : Prop := (∃ R, RG s t R) ∧ IC s ∧ IM t
theorem KP.k {s t s' t' : sg} {R : Nat} (h : KP s t R) (o20 : s' 20 = s 20) (o : ∀ p, 37 ≤ p → p ≤ 52 → s' p = s p) (o19 : t' 19 = t 19) (o11 : ∀ k, 52 ≤ k → k < 156 → t' 11 k = t 11 k) : KP s' t' R := fun k hk => by
  rw [o20, o19]
  rcases h k hk with q | ⟨q1, q2, q3⟩
  · exact Or.inl q
  · refine Or.inr ⟨q1, q2, ?_⟩
    refine HR.e (q3.off (fun p h1 h2 => o p (by omega) (by omega))) (fun i hi => ?_)
    unfold pg
    exact o11 _ (by omega) (by omega)
theorem TP.k {s t s' t' : sg} (h : TP s t) (o27 : s' 27 1 = s 27 1) (o28 : s' 28 = s 28) (o10 : t' 10 8 = t 10 8) (o13 : t' 13 = t 13) : TP s' t' := by
  obtain ⟨L, h1, h2, h3, h4⟩ := h
  refine ⟨L, h1, o27.trans h2, o10.trans h3, fun i hi => ?_⟩
  rw [o28, o13]
  exact h4 i hi
theorem FE.k {s t s' t' : sg} {R : Nat} (h : FE s t R) (o23 : s' 23 = s 23) (o24 : s' 24 = s 24) (o25 : s' 25 = s 25) (o26 : s' 26 = s 26) (o10 : t' 10 22 = t 10 22) (o17 : t' 17 = t 17) : FE s' t' R := by
  obtain ⟨m, h1, h2, h3, h4⟩ := h
  refine ⟨m, h1, by rw [o23]; exact h2, o10.trans h3, fun i hi => ?_⟩
  rw [o24, o25, o26, o17]
  exact h4 i hi
theorem SH.k {s t s' t' : sg} (h : SH s t) (o : ∀ p, 133 ≤ p → p ≤ 140 → s' p = s p) (o20 : t' 20 = t 20) (o21 : t' 21 = t 21) (o22 : t' 22 = t 22) : SH s' t' := fun k hk => by
  rw [o (133 + 2 * k) (by omega) (by omega), o (133 + 2 * k + 1) (by omega) (by omega), o20, o21, o22]
  exact h k hk
theorem LT.k {t t' : sg} (h : LT t) (o14 : t' 14 = t 14) (o15 : t' 15 = t 15) : LT t' := by
  unfold LT
  rw [o14, o15]
  exact h
section RGF
variable {s t s' t' : sg} {R : Nat} {x x1 x2 x3 x4 x5 : Int32}
theorem RG.r (G : RG s t R) : t 10 1 = nI R := G.1
theorem RG.h (G : RG s t R) : HR s 11 (pg t 0) R := G.2.1
theorem RG.kp (G : RG s t R) : KP s t R := G.2.2.1
theorem RG.tp (G : RG s t R) : TP s t := G.2.2.2.1
theorem RG.fe (G : RG s t R) : FE s t R := G.2.2.2.2.1
theorem RG.sh (G : RG s t R) : SH s t := G.2.2.2.2.2.1
theorem RG.tn (G : RG s t R) : s 10 7 = t 10 28 := G.2.2.2.2.2.2.1
theorem RG.lt (G : RG s t R) : LT t := G.2.2.2.2.2.2.2
theorem offG.fn (o : offG t t') {q : Nat} (h : q ≠ 11 ∧ q ≠ 16 ∧ q ≠ 18 ∧ q ≠ 10) : t' q = t q := by
  funext k
  exact o q k (fun w => h.1 w.1) h.2.1 h.2.2.1 (fun w => h.2.2.2 w.1)
theorem offG.ob (o : offG t t') {k : Nat} (h : k ≠ 19 ∧ k ≠ 20) : t' 10 k = t 10 k := o 10 k (by omega) (by decide) (by decide) (by omega)
theorem RG.fr (G : RG s t R) (oS : ∀ p, ¬ (11 ≤ p ∧ p ≤ 18) → ¬ (53 ≤ p ∧ p ≤ 132) → s' p = s p) (oT : offG t t') (H : HR s' 11 (pg t' 0) R) : RG s' t' R := by
  have o : ∀ p, p < 11 ∨ (18 < p ∧ p < 53) ∨ 132 < p → s' p = s p := fun p hp => oS p (by omega) (by omega)
  refine ⟨(oT.ob (by decide)).trans G.r, H, ?_, ?_, ?_, ?_, ?_, ?_⟩
  · exact G.kp.k (o 20 (by decide)) (fun p _ _ => o p (by omega)) (oT.fn (by decide)) (fun k _ _ => oT 11 k (by omega) (by decide) (by decide) (by omega))
  · exact G.tp.k (by rw [o 27 (by decide)]) (o 28 (by decide)) (oT.ob (by decide)) (oT.fn (by decide))
  · exact G.fe.k (o 23 (by decide)) (o 24 (by decide)) (o 25 (by decide)) (o 26 (by decide)) (oT.ob (by decide)) (oT.fn (by decide))
  · exact G.sh.k (fun p _ _ => o p (by omega)) (oT.fn (by decide)) (oT.fn (by decide)) (oT.fn (by decide))
  · rw [o 10 (by decide), oT.ob (by decide)]; exact G.tn
  · exact G.lt.k (oT.fn (by decide)) (oT.fn (by decide))
/-- questions change nothing of it -/
theorem RG.qu (G : RG s t R) (oS : offT s s') (oT : offM t t') : RG s' t' R := by
  refine G.fr (fun p _ h2 => oS p h2) oT.g ?_
  refine HR.e (G.h.off (fun p h1 h2 => oS p (by omega))) (fun i hi => ?_)
  rw [pg0, pg0]
  exact oT 11 i (by omega) (by decide) (by decide) (by omega)
def JQ (a b : Int32 × sg) : Prop := a.1 = b.1 ∧ ∃ R, RG a.2 b.2 R
def JF (a b : Int32 × sg) : Prop := a.1 = b.1 ∧ RF a.2 b.2
theorem J.fin {o o' : Option (Int32 × sg)} {P P' : Int32 × sg → Prop} (h : w2 o o' JQ) (h1 : wp o P) (k1 : ∀ a, P a → IC a.2) (h2 : wp o' P') (k2 : ∀ b, P' b → IM b.2) : w2 o o' JF :=
  (h.add h1 h2).c (fun a b q => ⟨q.1.1, q.1.2, k1 a q.2.1, k2 b q.2.2⟩)
theorem up_comm {p q i j : Nat} {v w : Int32} (h : p ≠ q) : up (up s p i v) q j w = up (up s q j w) p i v := by
  funext a k
  unfold up
  by_cases c1 : a = q ∧ j = k ∨ a = q ∧ k = j
  · have c : a = q ∧ k = j := by omega
    rw [if_pos c, if_neg (fun z => h (z.1.symm.trans c.1)), if_pos c]
  · have c : ¬ (a = q ∧ k = j) := by omega
    rw [if_neg c]
    by_cases d : a = p ∧ k = i
    · rw [if_pos d, if_pos d]
    · rw [if_neg d, if_neg d, if_neg c]
theorem gu_comm {g : Nat → Int32} {i j : Nat} {v w : Int32} (h : i ≠ j) : gu (gu g i v) j w = gu (gu g j w) i v := by
  funext a
  unfold gu
  by_cases c : a = j
  · rw [if_pos c, if_neg (fun z => h (z.symm.trans c)), if_pos c]
  · rw [if_neg c, if_neg c]
theorem a47 : M_alter_47 x1 x2 x3 t = some (-1, t) := by
  unfold M_alter_47 M_alter_48
  rw [puts_0]; rfl
theorem J_alter (F : RF s t) : w2 (C_alter x1 x2 x3 s) (M_alter x1 x2 x3 t) JF := by
  obtain ⟨⟨R, G⟩, I, M⟩ := F
  refine J.fin ?_ (W_C_alter I) (fun _ h => h.1) (V_M_alter M) (fun _ h => h.1)
  have H := G.h
  have h6 := H.r6
  have no : w2 (some ((-1 : Int32), s)) (some ((-1 : Int32), t)) JQ := w2s ⟨rfl, R, G⟩
  unfold C_alter M_alter
  refine w2P (hasRoom_P H.rm) (isRoom_P G.r h6) (fun _ => by rw [a47]; exact no) (fun c1 => ?_)
  obtain ⟨j, hj, rfl⟩ := room_j h6 c1
  refine w2P within_eq (inP (by decide) (by decide)) (fun _ => by rw [a47]; exact no) (fun c2 => ?_)
  obtain ⟨i, hi, rfl⟩ := in_j (by decide) c2
  have fin : ∀ i, i ≤ 2 → HR (up s (12 + i) j x3) 11 (gu (pg t 0) (6 * i + j) x3) R → s (12 + i) j = pg t 0 (6 * i + j) → w2 (C_alter_79 (nI j) x3 (12 + i) s) (M_alter_48 (nI j) (nI i) x3 (nI 1) t) JQ := fun i hi H' e => by
    unfold C_alter_79 M_alter_48
    rw [exch_eq (by omega) (by decide), pk_mul, nI_add, puts_eq (by omega), sub_nI0, add_nI0]
    refine w2s ⟨?_, R, ?_⟩
    · show s (12 + i) j = t 11 (6 * i + j)
      rw [e, pg0]
    · refine G.fr (fun p q1 q2 => up_off (by omega)) (offG.u (by omega)) ?_
      rw [pg_up0]; exact H'
  have hi' : i = 0 ∨ i = 1 ∨ i = 2 := by omega
  rcases hi' with rfl | rfl | rfl
  · rw [if_pos (by decide), if_pos (by decide)]
    unfold C_alter_35 M_alter_37
    refine w2P within_eq (inP (by decide) (by decide)) (fun _ => by rw [a47]; exact no) (fun _ => ?_)
    rw [if_pos (by decide)]
    exact fin 0 (by decide) (H.set1 hj) (H.wm j hj)
  · rw [if_neg (by decide), if_neg (by decide)]
    unfold C_alter_35 M_alter_37
    refine w2P within_eq (inP (by decide) (by decide)) (fun _ => by rw [a47]; exact no) (fun _ => ?_)
    rw [if_neg (by decide), if_pos (by decide)]
    exact fin 1 (by decide) (H.set2 hj) (H.ls j hj)
  · rw [if_neg (by decide), if_neg (by decide)]
    unfold C_alter_35 M_alter_37
    refine w2P within_eq (inP (by decide) (by decide)) (fun _ => by rw [a47]; exact no) (fun _ => ?_)
    rw [if_neg (by decide), if_neg (by decide)]
    exact fin 2 (by decide) (H.set3 hj) (H.br j hj)
theorem J_fit (F : RF s t) : w2 (C_fit x1 x2 x3 s) (M_fit x1 x2 x3 t) JF := by
  obtain ⟨⟨R, G⟩, I, M⟩ := F
  refine J.fin ?_ (W_C_fit I) (fun _ h => h.1) (V_M_fit M) (fun _ h => h.1)
  have H := G.h
  have h6 := H.r6
  have no : w2 (some ((-1 : Int32), s)) (some ((-1 : Int32), t)) JQ := w2s ⟨rfl, R, G⟩
  unfold C_fit M_fit
  refine w2P (hasRoom_P H.rm) (isRoom_P G.r h6) (fun _ => no) (fun c1 => ?_)
  obtain ⟨j, hj, rfl⟩ := room_j h6 c1
  refine w2P within_eq (inP (by decide) (by decide)) (fun _ => no) (fun c2 => ?_)
  obtain ⟨k, hk, rfl⟩ := in_j (by decide) c2
  refine w2P within_eq (inP (by decide) (by decide)) (fun _ => no) (fun c3 => ?_)
  obtain ⟨c, hc, rfl⟩ := in_j (by decide) c3
  have fin : ∀ y y' : Int32, y = y' → w2 (C_fit_57 (nI j) (nI k) (nI c) y s) (M_fit_58 (nI j) (nI k) (nI c) y' t) JQ := fun y y' e => by
    unfold C_fit_57 M_fit_58
    refine w2l rfl (by omega) (by decide) (w2sl (w2l rfl (by omega) (by decide) (w2sl ?_)))
    refine w2r (nI_add 18 j) (by omega) (by decide) (w2sr (w2r (nI_add 24 j) (by omega) (by decide) (w2sr ?_)))
    refine w2s ⟨e, R, ?_⟩
    refine G.fr (fun p q1 q2 => ?_) (offG.tr (offG.u (by omega)) (offG.u (by omega))) ?_
    · show up (up s 15 j (nI k)) 16 j (nI c) p = s p
      rw [up_off (by omega), up_off (by omega)]
    · show HR (up (up s 15 j (nI k)) 16 j (nI c)) 11 (pg (up (up t 11 (18 + j) (nI k + nI 1)) 11 (24 + j) (nI c)) 0) R
      rw [pg_up0, pg_up0, up_comm (by decide), gu_comm (by omega)]
      have H5 : HR (up s 16 j (nI c)) 11 (gu (pg t 0) (24 + j) (nI c)) R := H.set5 hj hc
      exact H5.set4 hj hk (by rw [gu_eq]; exact up_eq)
  refine w2P (hasTongue_eq H hj) (hasT_eq (by omega)) (fun _ => fin _ _ rfl) (fun c4 => ?_)
  refine w2l rfl (by omega) (by decide) (w2r (nI_add 18 j) (by omega) (by decide) (fin _ _ ?_))
  obtain ⟨⟨k', _, e1, e2⟩, _⟩ := H.to j hj
  rw [pg0] at e1
  rw [e1]
  exact e2
theorem take_eq {b j : Nat} (hj : j < 6) : H_takeTongue b (nI j) s = some (up (up s (b + 4) j (-1)) b 1 (s b 1 &&& ((nI 1 <<< (nI j &&& 31)) ^^^ (-1)))) := by
  unfold H_takeTongue
  rw [midx_nI hj (by decide)]
  show some (up (up s (b + 4) j (-1)) b 1 ((up s (b + 4) j (-1)) b 1 &&& ((nI 1 <<< (nI j &&& 31)) ^^^ (-1)))) = _
  rw [up_p (by omega)]
theorem strips_eq {p j : Nat} (hp : p + 52 ≤ 312) (hj : j < 6) : M_stripsOn (nI p) (nI j) t = some (up (up (up t 11 (p + (18 + j)) (nI 0)) 11 (p + (24 + j)) (nI 0)) 11 (p + (30 + j)) (nI 0)) := by
  unfold M_stripsOn
  rw [ix3, ix3, ix3, midx_nI (by omega) (by decide), midx_nI (by omega) (by decide), midx_nI (by omega) (by decide)]
  rfl
theorem J_strip (F : RF s t) : w2 (C_strip x1 s) (M_strip x1 t) JF := by
  obtain ⟨⟨R, G⟩, I, M⟩ := F
  refine J.fin ?_ (W_C_strip I) (fun _ h => h.1) (V_M_strip M) (fun _ h => h.1)
  have H := G.h
  have h6 := H.r6
  unfold C_strip M_strip
  refine w2P (hasRoom_P H.rm) (isRoom_P G.r h6) (fun _ => w2s ⟨rfl, R, G⟩) (fun c1 => ?_)
  obtain ⟨j, hj, rfl⟩ := room_j h6 c1
  refine w2P (hasTongue_eq H hj) (hasT_eq (by omega)) (fun _ => w2s ⟨rfl, R, G⟩) (fun c4 => ?_)
  refine w2l rfl (by omega) (by decide) (w2r (nI_add 18 j) (by omega) (by decide) ?_)
  rw [take_eq (by omega), strips_eq (by decide) (by omega)]
  refine w2s ⟨?_, R, ?_⟩
  · obtain ⟨⟨k', _, e1, e2⟩, _⟩ := H.to j hj
    rw [pg0] at e1
    show s 15 j = t 11 (18 + j) - nI 1
    rw [e1]
    exact e2
  · refine G.fr (fun p q1 q2 => ?_) (offG.tr (offG.tr (offG.u (by omega)) (offG.u (by omega))) (offG.u (by omega))) ?_
    · show up (up s 15 j (-1)) 11 1 _ p = s p
      rw [up_off (by omega), up_off (by omega)]
    · show HR _ 11 (pg (up (up (up t 11 (0 + (18 + j)) (nI 0)) 11 (0 + (24 + j)) (nI 0)) 11 (0 + (30 + j)) (nI 0)) 0) R
      rw [pg_up, pg_up, pg_up]
      exact H.take hj
/-- marks, told to both -/
theorem marks_2 {b : Nat} (H : HR s b (pg t 0) R) (e : t 10 1 = nI R) : (∃ v : Int32, ¬ v = 0 ∧ v < 0 ∧ H_markRefused b x1 x2 s = some v ∧ M_marks x1 x2 t = some (v, t)) ∨ (∃ j c : Nat, j < R ∧ c ≤ 99 ∧ x1 = nI j ∧ x2 = nI c ∧ 0 < pg t 0 (18 + j) ∧ H_markRefused b x1 x2 s = some (nI 0) ∧ M_marks x1 x2 t = some (t 11 (24 + j), up t 11 (24 + j) (nI c))) := by
  have h6 := H.r6
  unfold H_markRefused M_marks
  rw [hasRoom_P H.rm, isRoom_P e h6]
  by_cases c1 : ¬ x1 < nI 0 ∧ x1 < nI R
  · rw [if_pos c1]
    obtain ⟨j, hj, rfl⟩ := room_j h6 c1
    by_cases c2 : ¬ x2 < nI 0 ∧ ¬ nI 99 < x2
    · obtain ⟨c, hc, rfl⟩ := in_j (by decide) c2
      by_cases c3 : 0 < pg t 0 (18 + j)
      · refine Or.inr ⟨j, c, hj, hc, rfl, rfl, c3, ?_, ?_⟩
        · show (C_within (nI c) (nI 0) (nI 99) s).bind _ = _
          rw [within_eq, if_pos c2]
          show (H_hasTongue b (nI j) s).bind _ = _
          rw [hasTongue_eq H hj, if_pos c3]; rfl
        · show (M_in (nI c).toInt64 (0 : Int64) (99 : Int64) t).bind _ = _
          rw [inP (lo := nI 0) (hi := nI 99) (by decide) (by decide), if_pos c2]
          show (M_hasTongue (nI j) t).bind _ = _
          rw [hasT_eq (by omega), if_pos c3]
          show (M_puts (nI 1) (nI 24 + nI j) (nI c) (nI 0) t).bind _ = _
          rw [nI_add, puts_eq (by omega), add_nI0, sub_nI0]; rfl
      · refine Or.inl ⟨-2, by decide, by decide, ?_, ?_⟩
        · show (C_within (nI c) (nI 0) (nI 99) s).bind _ = _
          rw [within_eq, if_pos c2]
          show (H_hasTongue b (nI j) s).bind _ = _
          rw [hasTongue_eq H hj, if_neg c3]; rfl
        · show (M_in (nI c).toInt64 (0 : Int64) (99 : Int64) t).bind _ = _
          rw [inP (lo := nI 0) (hi := nI 99) (by decide) (by decide), if_pos c2]
          show (M_hasTongue (nI j) t).bind _ = _
          rw [hasT_eq (by omega), if_neg c3]; rfl
    · refine Or.inl ⟨-1, by decide, by decide, ?_, ?_⟩
      · show (C_within x2 (nI 0) (nI 99) s).bind _ = _
        rw [within_eq, if_neg c2]; rfl
      · show (M_in x2.toInt64 (0 : Int64) (99 : Int64) t).bind _ = _
        rw [inP (lo := nI 0) (hi := nI 99) (by decide) (by decide), if_neg c2]; rfl
  · rw [if_neg c1]
    exact Or.inl ⟨-1, by decide, by decide, rfl, rfl⟩
theorem J_mark (F : RF s t) : w2 (C_mark x1 x2 s) (M_mark x1 x2 t) JF := by
  obtain ⟨⟨R, G⟩, I, M⟩ := F
  refine J.fin ?_ (W_C_mark I) (fun _ h => h.1) (V_M_mark M) (fun _ h => h.1)
  have H := G.h
  have h6 := H.r6
  unfold C_mark M_mark
  rcases marks_2 (x1 := x1) (x2 := x2) H G.r with ⟨v, h1, h2, e1, e2⟩ | ⟨j, c, hj, hc, rfl, rfl, c3, e1, e2⟩
  · rw [e1, e2]
    refine w2sl (w2sr ?_)
    rw [if_neg h1]
    exact w2s ⟨rfl, R, G⟩
  · rw [e1, e2]
    refine w2sl (w2sr ?_)
    rw [if_pos (by decide), exch_eq (by omega) (by decide)]
    refine w2s ⟨?_, R, ?_⟩
    · show s 16 j = t 11 (24 + j)
      obtain ⟨_, _, z⟩ := H.to j hj
      have z' := z c3
      rw [pg0] at z'
      exact z'
    · refine G.fr (fun p q1 q2 => up_off (by omega)) (offG.u (by omega)) ?_
      rw [pg_up0]
      exact H.set5 hj hc
theorem sub_add (x y : Int32) : x = x - y + y := (Int32.sub_add_cancel x y).symm
theorem J_lag (F : RF s t) : w2 (C_lag x1 x2 s) (M_lag x1 x2 t) JF := by
  obtain ⟨⟨R, G⟩, I, M⟩ := F
  refine J.fin ?_ (W_C_lag I) (fun _ h => h.1) (V_M_lag M) (fun _ h => h.1)
  have H := G.h
  have h6 := H.r6
  have no : w2 (some ((-1 : Int32), s)) (M_lag_25 x1 x2 t) JQ := by
    unfold M_lag_25 M_lag_26
    rw [puts_0]
    exact w2s ⟨rfl, R, G⟩
  unfold C_lag M_lag
  refine w2P (hasWall_P H.rm) (isWall_P G.r h6) (fun _ => no) (fun c1 => ?_)
  refine w2P within_eq (inP (by decide) (by decide)) (fun _ => no) (fun c2 => ?_)
  obtain ⟨j, hj, rfl⟩ := wall_j h6 c1
  unfold M_lag_26
  rw [exch_eq (by omega) (by decide), nI_add, puts_eq (by omega)]
  refine w2s ⟨?_, R, ?_⟩
  · show s 17 j = t 11 (36 + j) + nI 2
    have h := H.wa j hj
    rw [pg0] at h
    exact h
  · refine G.fr (fun p q1 q2 => up_off (by omega)) (offG.u (by omega)) ?_
    rw [pg_up0]
    exact H.set6 hj (by rw [gu_eq]; exact sub_add _ _) (fun i hi => gu_ne hi)
theorem J_sky (F : RF s t) : w2 (C_sky x1 x2 s) (M_sky x1 x2 t) JF := by
  obtain ⟨⟨R, G⟩, I, M⟩ := F
  refine J.fin ?_ (W_C_sky I) (fun _ h => h.1) (V_M_sky M) (fun _ h => h.1)
  have H := G.h
  have h6 := H.r6
  have no : w2 (some ((-1 : Int32), s)) (M_sky_29 x1 x2 t) JQ := by
    unfold M_sky_29 M_sky_30
    rw [puts_0]
    exact w2s ⟨rfl, R, G⟩
  unfold C_sky M_sky
  refine w2P within_eq (inP (by decide) (by decide)) (fun _ => no) (fun c1 => ?_)
  refine w2P within_eq (inP (by decide) (by decide)) (fun _ => no) (fun c2 => ?_)
  obtain ⟨j, hj, rfl⟩ := in_j (by decide) c1
  unfold M_sky_30
  rw [exch_eq (by omega) (by decide), nI_add, puts_eq (by omega)]
  refine w2s ⟨?_, R, ?_⟩
  · show s 18 j = t 11 (41 + j) + nI 10
    have h := H.ou j (by omega)
    rw [pg0] at h
    exact h
  · refine G.fr (fun p q1 q2 => up_off (by omega)) (offG.u (by omega)) ?_
    rw [pg_up0]
    exact H.set7 (by omega) (by rw [gu_eq]; exact sub_add _ _) (fun i hi => gu_ne hi)
end RGF
