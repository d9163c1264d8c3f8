/-! the next token, by both -/
section STEP
variable {s t t0' : sg} {b : Nat → Int32} {L p rr : Nat} {x x1 x2 x3 v : Int32}
/-- a fault is kept -/
def FK (s s' : sg) : Prop := ¬ s 27 3 = 0 → s' 27 3 = s 27 3 ∧ s' 27 4 = s 27 4
theorem FK.rf : FK s s := fun _ => ⟨rfl, rfl⟩
theorem FK.tr {s' s'' : sg} (h1 : FK s s') (h2 : FK s' s'') : FK s s'' := fun h => by
  obtain ⟨a, c⟩ := h1 h
  obtain ⟨a2, c2⟩ := h2 (by rw [a]; exact h)
  exact ⟨a2.trans a, c2.trans c⟩
theorem FK.up {q k : Nat} (h : q ≠ 27 ∨ (k ≠ 3 ∧ k ≠ 4)) : FK s (up s q k v) := fun _ => ⟨if_neg (by omega), if_neg (by omega)⟩
theorem K_fail {c : Nat} (hc : 0 < c) (hc2 : c < 1000) : wp (T_fail (nI c) x2 s) (fun s' => keepF s s' ∧ ¬ s' 27 3 = 0 ∧ FK s s' ∧ (s 27 3 = 0 → s' 27 4 = x2)) := by
  unfold T_fail
  refine wi (fun h => wsb (wsb (ws ⟨fun q k hq => ?_, ?_, fun w => absurd h w, fun _ => up_eq⟩))) (fun h => ws ⟨keepF.rf, h, FK.rf, fun w => absurd w h⟩)
  · rw [up, if_neg (fun w => hq ⟨w.1, Or.inr w.2⟩), up, if_neg (fun w => hq ⟨w.1, Or.inl w.2⟩)]
  · rw [up_k (by decide), up_eq]; exact nI_ne0 hc (by omega)
/-- what the class's nextToken leaves -/
def NT (b : Nat → Int32) (L p : Nat) (s s' : sg) : Prop := keepC s s' ∧ s' 27 7 = nI (stV b L p) ∧ s' 27 8 = nI (tkE b L p) ∧ FK s s' ∧ (¬ badT b L p → s' 27 6 = tkS b L p ∧ (s 27 3 = 0 → s' 27 3 = 0)) ∧ (badT b L p → s 27 3 = 0 → ¬ s' 27 3 = 0 ∧ s' 27 4 = nI (stV b L p))
theorem K_next (hL : L ≤ 160) (eL : s 27 1 = nI L) (hb : ∀ i, i < L → s 28 i = b i) (e8 : s 27 8 = nI p) (hp : p ≤ L) : wp (T_nextToken s) (NT b L p s) := by
  obtain ⟨S, e, k, e6, e7, e8'⟩ := K_tok hL eL hb e8 hp
  have hE := tkE_le (b := b) hp
  rw [e]
  have k3 : S 27 3 = s 27 3 := k 27 3 (by omega)
  have k4 : S 27 4 = s 27 4 := k 27 4 (by omega)
  have kC : keepC s S := fun q j h => k q j (fun w => h ⟨w.1, by omega⟩)
  have good : ¬ badT b L p → wp (some S) (NT b L p s) := fun nb => ws ⟨kC, e7, e8', fun _ => ⟨k3, k4⟩, fun _ => ⟨e6, fun h => k3.trans h⟩, fun w => absurd w nb⟩
  have bad : badT b L p → wp (T_nextToken_153 S) (NT b L p s) := fun hbad => by
    unfold T_nextToken_153
    refine wsb (wb (K_fail (by decide) (by decide)) (fun s2 g => ws ⟨kC.tr ((keepC.ud (by omega)).tr g.1.c), ?_, ?_, ?_, fun w => absurd hbad w, fun _ h => ⟨g.2.1, ?_⟩⟩))
    · rw [g.1 27 7 (by omega), up_k (by decide)]; exact e7
    · rw [g.1 27 8 (by omega), up_k (by decide)]; exact e8'
    · exact FK.tr (fun _ => ⟨k3, k4⟩) (FK.tr (FK.up (by omega)) g.2.2.1)
    · rw [g.2.2.2 (by rw [up_k (by decide), k3]; exact h), up_k (by decide)]; exact e7
  unfold T_nextToken_124
  rw [e6]
  refine wi (fun c => bad (Or.inl c)) (fun c => wi (fun c2 => ?_) (fun c2 => good (fun w => w.elim c (fun z => c2 z.1))))
  rw [e7, e8', sub_nI hE.1]
  refine wi (fun d => bad (Or.inr ⟨c2, ?_⟩)) (fun d => good (fun w => w.elim c (fun z => d ?_)))
  · have := (nI_ltI (by decide) (by omega)).mp d
    omega
  · refine (nI_ltI (by decide) (by omega)).mpr ?_
    have := z.2
    omega
theorem K_tv7 (hL : L ≤ 160) (hb : ∀ i, i < L → s 28 i = b i) (e6 : s 27 6 = nI 2) {e : Nat} (e8 : s 27 8 = nI e) (he : e ≤ L) : ∀ (n i fu : Nat) (a : Int32), i + n = e → n < fu → T_tokenValue_7 s fu a (nI i) = some (tvV b n i a)
  | n, i, 0, a, hr, hf => absurd hf (by omega)
  | n, i, fu + 1, a, hr, hf => by
    rw [T_tokenValue_7, e8, e6]
    by_cases c : i < e
    · obtain ⟨n, rfl⟩ : ∃ k, n = k + 1 := ⟨n - 1, by omega⟩
      rw [if_pos ((nI_ltI (by omega) (by omega)).mpr c), if_pos rfl, midx_nI (by omega) (by decide)]
      show T_tokenValue_7 s fu ((nI 10 * a + s 28 i) - nI 48) (nI i + nI 1) = _
      rw [hb i (by omega), nI_add, tvV]
      exact K_tv7 hL hb e6 e8 he n (i + 1) fu _ (by omega) (by omega)
    · obtain rfl : n = 0 := by omega
      rw [if_neg (fun w => c ((nI_ltI (by omega) (by omega)).mp w))]; rfl
theorem K_value (hL : L ≤ 160) (hb : ∀ i, i < L → s 28 i = b i) (hp : p ≤ L) (e6 : s 27 6 = nI 2) (e7 : s 27 7 = nI (stV b L p)) (e8 : s 27 8 = nI (tkE b L p)) : T_tokenValue s = some (vlV b L p) := by
  have h := tkE_le (b := b) hp
  unfold T_tokenValue vlV
  rw [e7]
  exact K_tv7 hL hb e6 e8 h.2 _ _ FU _ (by omega) (by show tkE b L p - stV b L p < 100000; omega)
/-- bytes of the tape, at the reference -/
def TB (b : Nat → Int32) (L : Nat) (t : sg) : Prop := ∀ i, i < L → t 13 i = b i ∧ ∃ c : Nat, c < 128 ∧ b i = nI c
theorem TB.k {t' : sg} (h : TB b L t) (o : offK t t') : TB b L t' := fun i hi => by
  rw [o 13 i (by omega)]; exact h i hi
theorem bt_b (B : TB b L t) {q : Nat} (hq : q < L) : bt t L q = b q := by
  unfold bt
  rw [if_pos hq]; exact (B q hq).1
theorem bt_e {q : Nat} (hq : L ≤ q) : bt t L q = -4 := by
  unfold bt
  rw [if_neg (by omega)]
theorem R_84 : ∀ (n q fu : Nat) (t : sg), TX t L q 0 rr → TB b L t → q + n = L → n < fu → M_step_84 fu t = some (up (up t 10 12 (nI (rnV b (nI 1) n q))) 10 14 (nI 1))
  | n, q, 0, t, X, B, hr, hf => absurd hf (by omega)
  | n, q, fu + 1, t, X, B, hr, hf => by
    have h2 := X.l2
    rw [M_step_84, X.p, byteAt_eq X (by omega)]
    show ((M_in (bt t L q).toInt64 (97 : Int64) (122 : Int64) t).bind fun v2 => if v2 = 0 then some (up t 10 14 (nI 1)) else M_step_84 fu (up t 10 12 (nI q + nI 1))) = _
    rw [inP (lo := nI 97) (hi := nI 122) (by decide) (by decide)]
    by_cases c : q < L
    · obtain ⟨n, rfl⟩ : ∃ k, n = k + 1 := ⟨n - 1, by omega⟩
      rw [bt_b B c, rnV, nI_add]
      by_cases d : ¬ b q < nI 97 ∧ ¬ nI 122 < b q
      · rw [if_pos d, if_pos ((srV_1 _).mpr d)]
        show (if nI 1 = 0 then some (up t 10 14 (nI 1)) else M_step_84 fu (up t 10 12 (nI (q + 1)))) = _
        rw [if_neg (by decide), R_84 n (q + 1) fu _ (X.u12 (by omega)) (B.k (offK.u (by decide))) (by omega) (by omega), up_up]
      · rw [if_neg d, if_neg (fun w => d ((srV_1 _).mp w)), up_self X.p]; rfl
    · obtain rfl : n = 0 := by omega
      rw [bt_e (by omega), rnV, up_self X.p]; rfl
/-- a number's letters, at the reference -/
theorem R_140 {st : Nat} : ∀ (n q fu : Nat) (t : sg) (v : Int32), TX t L q 0 rr → TB b L t → t 10 13 = nI st → t 10 15 = v → st ≤ q → q + n = L → n < fu → wp (M_step_140 fu t) (fun t' => offK t t' ∧ t' 10 13 = nI st ∧ (rnV b (nI 2) n q ≤ st + 2 → t' 10 10 = nI 0 ∧ t' 10 12 = nI (rnV b (nI 2) n q) ∧ t' 10 14 = nI 2 ∧ t' 10 15 = tvV b (rnV b (nI 2) n q - q) q v) ∧ (st + 2 < rnV b (nI 2) n q → ¬ t' 10 10 = 0 ∧ t' 10 11 = nI st))
  | n, q, 0, t, v, X, B, e3, e5, hs, hr, hf => absurd hf (by omega)
  | n, q, fu + 1, t, v, X, B, e3, e5, hs, hr, hf => by
    have h2 := X.l2
    rw [M_step_140, X.p, byteAt_eq X (by omega)]
    refine wsb ?_
    have fin : rnV b (nI 2) n q = q → wp ((some (up t 10 14 (nI 2))).bind fun s1 => if nI 2 < (s1 10 12) - (s1 10 13) then (M_fails (nI 1) s1).bind fun s2 => some s2 else some s1) (fun t' => offK t t' ∧ t' 10 13 = nI st ∧ (rnV b (nI 2) n q ≤ st + 2 → t' 10 10 = nI 0 ∧ t' 10 12 = nI (rnV b (nI 2) n q) ∧ t' 10 14 = nI 2 ∧ t' 10 15 = tvV b (rnV b (nI 2) n q - q) q v) ∧ (st + 2 < rnV b (nI 2) n q → ¬ t' 10 10 = 0 ∧ t' 10 11 = nI st)) := fun e => by
      rw [e]
      refine wsb ?_
      rw [up_k (by decide), up_k (by decide), X.p, e3, sub_nI hs]
      refine wi (fun c => ?_) (fun c => ?_)
      · have hc := (nI_ltI (by decide) (by omega)).mp c
        unfold M_fails
        rw [up_k (by decide), X.b, if_pos (by decide)]
        refine wsb (wsb (wsb (ws ⟨?_, ?_, fun w => absurd w (by omega), fun _ => ⟨?_, ?_⟩⟩)))
        · exact ((offK.u (by decide)).tr (offK.u (by decide))).tr (offK.u (by decide))
        · rw [up_k (by decide), up_k (by decide), up_k (by decide)]; exact e3
        · rw [up_k (by decide), up_eq]; decide
        · rw [up_eq, up_k (by decide), up_k (by decide)]; exact e3
      · have hc : ¬ 2 < q - st := fun w => c ((nI_ltI (by decide) (by omega)).mpr w)
        refine ws ⟨offK.u (by decide), (up_k (by decide)).trans e3, fun _ => ⟨(up_k (by decide)).trans X.b, (up_k (by decide)).trans X.p, up_eq, ?_⟩, fun w => absurd w (by omega)⟩
        rw [up_k (by decide), e5, Nat.sub_self]; rfl
    by_cases c : q < L
    · obtain ⟨n, rfl⟩ : ∃ k, n = k + 1 := ⟨n - 1, by omega⟩
      rw [bt_b B c]
      refine wbP (inP (lo := nI 48) (hi := nI 57) (by decide) (by decide)) (fun d => fin (by rw [rnV, if_neg (fun w => d ((srV_2 _).mp w))])) (fun d => ?_)
      have er : rnV b (nI 2) (n + 1) q = rnV b (nI 2) n (q + 1) := by rw [rnV, if_pos ((srV_2 _).mpr d)]
      have hle := rnV_le (b := b) (k := nI 2) n (q + 1)
      rw [er, e3, sub_nI hs]
      have go : ∀ y : Int32, (q < st + 2 → y = (nI 10 * v + b q) - nI 48) → wp (M_step_201 (M_step_140 fu) y t) (fun t' => offK t t' ∧ t' 10 13 = nI st ∧ (rnV b (nI 2) n (q + 1) ≤ st + 2 → t' 10 10 = nI 0 ∧ t' 10 12 = nI (rnV b (nI 2) n (q + 1)) ∧ t' 10 14 = nI 2 ∧ t' 10 15 = tvV b (rnV b (nI 2) n (q + 1) - q) q v) ∧ (st + 2 < rnV b (nI 2) n (q + 1) → ¬ t' 10 10 = 0 ∧ t' 10 11 = nI st)) := fun y hy => by
        unfold M_step_201
        refine wsb (wsb ?_)
        rw [up_k (by decide), X.p, nI_add]
        refine wc (R_140 n (q + 1) fu _ y ((X.u (by decide)).u12 (by omega)) ((B.k (offK.u (by decide))).k (offK.u (by decide))) ?_ ?_ (by omega) (by omega) (by omega)) (fun t' h => ⟨((offK.u (by decide)).tr (offK.u (by decide))).tr h.1, h.2.1, fun w => ?_, h.2.2.2⟩)
        · rw [up_k (by decide), up_k (by decide)]; exact e3
        · rw [up_k (by decide), up_eq]
        · obtain ⟨z1, z2, z3, z4⟩ := h.2.2.1 w
          refine ⟨z1, z2, z3, ?_⟩
          rw [z4, hy (by omega), show rnV b (nI 2) n (q + 1) - q = (rnV b (nI 2) n (q + 1) - (q + 1)) + 1 by omega, tvV]
      refine wi (fun f => ?_) (fun f => go _ (fun w => absurd ((nI_ltI (by omega) (by decide)).mpr (by omega)) f))
      refine wsb (go _ (fun _ => ?_))
      rw [e5]
    · obtain rfl : n = 0 := by omega
      rw [bt_e (by omega)]
      refine wbP (inP (lo := nI 48) (hi := nI 57) (by decide) (by decide)) (fun d => fin rfl) (fun d => absurd d (by decide))
/-- the reference stands at the token behind p -/
def CR (b : Nat → Int32) (L p : Nat) (t : sg) : Prop := t 10 10 = nI 0 ∧ t 10 13 = nI (stV b L p) ∧ t 10 12 = nI (tkE b L p) ∧ t 10 14 = tkS b L p ∧ (tkS b L p = nI 2 → t 10 15 = vlV b L p)
def RS (b : Nat → Int32) (L p : Nat) (t t' : sg) : Prop := offK t t' ∧ (¬ badT b L p → CR b L p t') ∧ (badT b L p → ¬ t' 10 10 = 0 ∧ t' 10 11 = nI (stV b L p))
theorem M_fails_0 {c : Nat} {st : Nat} (e : t 10 10 = nI 0) (e3 : t 10 13 = nI st) : M_fails (nI c) t = some (up (up t 10 10 (nI c)) 10 11 (nI st)) := by
  unfold M_fails
  rw [e, if_pos (by decide)]
  show some (up (up t 10 10 (nI c)) 10 11 ((up t 10 10 (nI c)) 10 13)) = _
  rw [up_k (by decide), e3]
theorem M_fails_1 {c : Int32} (e : ¬ t 10 10 = 0) : M_fails c t = some t := by
  unfold M_fails
  rw [if_neg e]
theorem R_8 : ∀ (n q fu : Nat) (t : sg), TX t L q 0 rr → TB b L t → stV b L p = skV b n q → q + n = L → n < fu → wp (M_step_8 fu t) (RS b L p t)
  | n, q, 0, t, X, B, hs, hr, hf => absurd hf (by omega)
  | n, q, fu + 1, t, X, B, hs, hr, hf => by
    have h2 := X.l2
    rw [M_step_8, X.p, byteAt_eq X (by omega)]
    refine wsb ?_
    by_cases c : q < L
    · obtain ⟨n, rfl⟩ : ∃ k, n = k + 1 := ⟨n - 1, by omega⟩
      rw [bt_b B c]
      rw [skV] at hs
      refine wi (fun d => ?_) (fun d => ?_)
      · rw [if_pos d] at hs
        rw [nI_add]
        refine wsb (wc (R_8 n (q + 1) fu _ (X.u12 (by omega)) (B.k (offK.u (by decide))) hs (by omega) (by omega)) (fun t' h => ⟨(offK.u (by decide)).tr h.1, h.2⟩))
      · rw [if_neg d] at hs
        refine wsb ?_
        have X1 : TX (up t 10 13 (nI q)) L q 0 rr := X.u (by decide)
        rw [X1.p, byteAt_eq X1 (by omega), bt_up, bt_b B c]
        refine wsb (wsb ?_)
        have hS : tkS b L p = srV (b q) := by unfold tkS; rw [hs, if_pos c]
        obtain ⟨cc, hc1, hc2⟩ := (B q c).2
        have o2 : offK t (up (up t 10 13 (nI q)) 10 15 (nI 0)) := (offK.u (by decide)).tr (offK.u (by decide))
        have X2 : TX (up (up t 10 13 (nI q)) 10 15 (nI 0)) L q 0 rr := X1.u (by decide)
        have B2 : TB b L (up (up t 10 13 (nI q)) 10 15 (nI 0)) := B.k o2
        have e3 : (up (up t 10 13 (nI q)) 10 15 (nI 0)) 10 13 = nI q := by rw [up_k (by decide), up_eq]
        have e5 : (up (up t 10 13 (nI q)) 10 15 (nI 0)) 10 15 = nI 0 := up_eq
        generalize up (up t 10 13 (nI q)) 10 15 (nI 0) = T at *
        rw [if_neg (show ¬ b q = -4 by rw [hc2]; exact fun w => absurd (nI_pos (n := cc) (by omega)) (by rw [w]; decide))]
        refine wbP (inP (lo := nI 97) (hi := nI 122) (by decide) (by decide)) (fun f => wbP (inP (lo := nI 48) (hi := nI 57) (by decide) (by decide)) (fun f2 => ?_) (fun f2 => ?_)) (fun f => ?_)
        · refine wsb (wsb ?_)
          rw [up_k (by decide), X2.p, nI_add]
          have oo : offK t (up (up T 10 14 (nI 3)) 10 12 (nI (q + 1))) := o2.tr ((offK.u (by decide)).tr (offK.u (by decide)))
          refine wi (fun g => ?_) (fun g => ?_)
          · have hk : tkS b L p = nI 3 := by
              rw [hS]; unfold srV; rw [if_neg f, if_neg f2, if_pos g]
            have hE : tkE b L p = q + 1 := by unfold tkE; rw [hk, if_neg (by decide), if_pos rfl, hs]
            refine ws ⟨oo, fun _ => ⟨?_, ?_, ?_, ?_, fun w => absurd (hk.symm.trans w) (by decide)⟩, fun w => ?_⟩
            · rw [up_k (by decide), up_k (by decide)]; exact X2.b
            · rw [up_k (by decide), up_k (by decide), hs]; exact e3
            · rw [up_eq, hE]
            · rw [up_k (by decide), up_eq, hk]
            · unfold badT at w
              rw [hk] at w
              exact absurd w (fun z => z.elim (by decide) (fun z2 => absurd z2.1 (by decide)))
          · have hk : tkS b L p = nI 4 := by
              rw [hS]; unfold srV; rw [if_neg f, if_neg f2, if_neg g]
            rw [M_fails_0 (st := q) (by rw [up_k (by decide), up_k (by decide)]; exact X2.b) (by rw [up_k (by decide), up_k (by decide)]; exact e3)]
            refine wsb (ws ⟨oo.tr ((offK.u (by decide)).tr (offK.u (by decide))), fun w => absurd (Or.inl hk) w, fun _ => ⟨?_, ?_⟩⟩)
            · rw [up_k (by decide), up_eq]; decide
            · rw [up_eq, hs]
        · have hk : tkS b L p = nI 2 := by rw [hS]; exact (srV_2 _).mpr f2
          have hE : tkE b L p = rnV b (nI 2) (n + 1) q := by unfold tkE; rw [hk, if_pos (Or.inr rfl), hs, show L - q = n + 1 by omega]
          refine wc (R_140 (st := q) (n + 1) q FU T (nI 0) X2 B2 e3 e5 (by omega) (by omega) (by show n + 1 < 100000; omega)) (fun t' h => ⟨o2.tr h.1, fun nb => ?_, fun hb => ?_⟩)
          · have hle : rnV b (nI 2) (n + 1) q ≤ q + 2 := by
              rw [← hE]
              refine Nat.le_of_not_lt (fun w => nb (Or.inr ⟨hk, ?_⟩))
              rw [hs]; exact w
            obtain ⟨z1, z2, z3, z4⟩ := h.2.2.1 hle
            refine ⟨z1, ?_, ?_, ?_, fun _ => ?_⟩
            · rw [hs]; exact h.2.1
            · rw [hE]; exact z2
            · rw [hk]; exact z3
            · unfold vlV
              rw [hE, hs]; exact z4
          · have hlt : q + 2 < rnV b (nI 2) (n + 1) q := by
              rcases hb with w | ⟨_, w⟩
              · rw [hk] at w; exact absurd w (by decide)
              · rw [← hE]; rw [hs] at w; exact w
            rw [hs]; exact h.2.2.2 hlt
        · have hk : tkS b L p = nI 1 := by rw [hS]; exact (srV_1 _).mpr f
          have hE : tkE b L p = rnV b (nI 1) (n + 1) q := by unfold tkE; rw [hk, if_pos (Or.inl rfl), hs, show L - q = n + 1 by omega]
          rw [R_84 (b := b) (n + 1) q FU T X2 B2 (by omega) (by show n + 1 < 100000; omega)]
          refine ws ⟨o2.tr ((offK.u (by decide)).tr (offK.u (by decide))), fun _ => ⟨?_, ?_, ?_, ?_, fun w => absurd (hk.symm.trans w) (by decide)⟩, fun w => ?_⟩
          · rw [up_k (by decide), up_k (by decide)]; exact X2.b
          · rw [up_k (by decide), up_k (by decide), hs]; exact e3
          · rw [up_k (by decide), up_eq, hE]
          · rw [up_eq, hk]
          · unfold badT at w
            rw [hk] at w
            exact absurd w (fun z => z.elim (by decide) (fun z2 => absurd z2.1 (by decide)))
    · obtain rfl : n = 0 := by omega
      have hq : q = L := by omega
      rw [skV] at hs
      rw [bt_e (by omega), if_neg (by decide)]
      refine wsb ?_
      have X1 : TX (up t 10 13 (nI q)) L q 0 rr := X.u (by decide)
      rw [X1.p, byteAt_eq X1 (by omega), bt_up, bt_e (by omega)]
      refine wsb (wsb ?_)
      rw [if_pos rfl]
      have hk : tkS b L p = nI 0 := by unfold tkS; rw [if_neg (by omega)]
      have hE : tkE b L p = q := by unfold tkE; rw [hk, if_neg (by decide), if_neg (by decide), hs]
      refine wsb (ws ⟨((offK.u (by decide)).tr (offK.u (by decide))).tr (offK.u (by decide)), fun _ => ⟨?_, ?_, ?_, ?_, fun w => absurd (hk.symm.trans w) (by decide)⟩, fun w => ?_⟩)
      · rw [up_k (by decide), up_k (by decide), up_k (by decide)]; exact X.b
      · rw [up_k (by decide), up_k (by decide), up_eq, hs]
      · rw [up_k (by decide), up_k (by decide), up_k (by decide), hE]; exact X.p
      · rw [up_eq, hk]
      · unfold badT at w
        rw [hk] at w
        exact absurd w (fun z => z.elim (by decide) (fun z2 => absurd z2.1 (by decide)))
theorem R_step (X : TX t L p 0 rr) (B : TB b L t) : wp (M_step t) (RS b L p t) := by
  have h2 := X.l2
  have h3 := X.p2
  unfold M_step
  rw [X.b, if_neg (by decide)]
  exact R_8 (L - p) p FU t X B rfl (by omega) (by show L - p < 100000; omega)
theorem R_step1 {q bb : Nat} (X : TX t L q bb rr) (h : ¬ t 10 10 = 0) : M_step t = some t := by
  have h2 := X.b2
  unfold M_step
  rw [X.b] at h ⊢
  have hb : 0 < bb := by
    refine Nat.pos_of_ne_zero (fun w => h ?_)
    rw [w]; rfl
  rw [if_pos]
  show nI 0 < nI bb
  exact (nI_ltI (by decide) (by omega)).mpr hb
end STEP
