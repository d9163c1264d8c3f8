/-! the reference's hour, number by number -/
def pg (t : sg) (p : Nat) : Nat → Int32 := fun i => t 11 (p + i)
section MHOUR
variable {t t' : sg} {p R r : Nat} {g : Nat → Int32} {x x1 x2 x3 y c c' : Int32}
theorem pg_up {k : Nat} {v : Int32} : pg (up t 11 (p + k) v) p = gu (pg t p) k v := by
  funext i
  unfold pg gu
  by_cases h : i = k
  · rw [if_pos h, h, up_eq]
  · rw [if_neg h, up_k (by omega)]
theorem pg_16 {q k : Nat} {v : Int32} (h : q ≠ 11) : pg (up t q k v) p = pg t p := by
  funext i
  unfold pg
  rw [up_p (fun w => h w.symm)]
theorem ix3 {a r : Nat} : nI p + nI a + nI r = nI (p + (a + r)) := by rw [nI_add, nI_add, Nat.add_assoc]
theorem ix2 {a : Nat} : nI p + nI a = nI (p + a) := nI_add p a
theorem lowOn_eq (hp : p + 52 ≤ 312) (hr : r < 6) : M_lowOn (nI p) (nI r) t = some (lowV (pg t p) r) := by
  unfold M_lowOn lowV
  rw [ix3, ix3, midx_nI (by omega) (by decide), midx_nI (by omega) (by decide)]
  show (if pg t p (18 + r) - nI 1 = 0 then some (pg t p (24 + r) - nI 2) else if pg t p (18 + r) - nI 1 = nI 1 then some (pg t p (24 + r) - nI 1) else some (pg t p (24 + r) - nI 5)) = _
  by_cases c1 : pg t p (18 + r) - nI 1 = 0
  · rw [if_pos c1, if_pos c1]
  · rw [if_neg c1, if_neg c1]
    by_cases c2 : pg t p (18 + r) - nI 1 = nI 1
    · rw [if_pos c2, if_pos c2]
    · rw [if_neg c2, if_neg c2]
theorem highOn_eq (hp : p + 52 ≤ 312) (hr : r < 6) : M_highOn (nI p) (nI r) t = some (highV (pg t p) r) := by
  unfold M_highOn highV
  rw [ix3, ix3, midx_nI (by omega) (by decide), midx_nI (by omega) (by decide)]
  show (if pg t p (18 + r) - nI 1 = nI 1 then some (pg t p (24 + r) + nI 1) else if pg t p (18 + r) - nI 1 = nI 3 then some (pg t p (24 + r) + nI 4) else some (pg t p (24 + r) + nI 2)) = _
  by_cases c1 : pg t p (18 + r) - nI 1 = nI 1
  · rw [if_pos c1, if_pos c1]
  · rw [if_neg c1, if_neg c1]
    by_cases c2 : pg t p (18 + r) - nI 1 = nI 3
    · rw [if_pos c2, if_pos c2]
    · rw [if_neg c2, if_neg c2]
theorem offP.u {k : Nat} {v : Int32} (hk : k < 52) : offP p t (up t 11 (p + k) v) := fun q j h _ => if_neg (fun w => h ⟨w.1, by omega, by omega⟩)
theorem offP.w {k : Nat} {v : Int32} : offP p t (up t 16 k v) := fun q j _ h => if_neg (fun w => h w.1)
theorem Y_sw (hp : p + 52 ≤ 312) (hR : R ≤ 6) : ∀ (n r fu : Nat) (t : sg), t 10 1 = nI R → r + n = R → n < fu → wp (M_tonguesOn_2 (nI p) fu (nI r) t) (fun t' => pg t' p = swN (pg t p) n r ∧ offP p t t')
  | n, r, 0, t, e, hr, hf => absurd hf (by omega)
  | n, r, fu + 1, t, e, hr, hf => by
    rw [M_tonguesOn_2, e]
    refine wi (fun cc => ?_) (fun cc => ?_)
    · rw [nI_ltI (by omega) (by omega)] at cc
      obtain ⟨n, rfl⟩ : ∃ m, n = m + 1 := ⟨n - 1, by omega⟩
      have e1 : nI r + nI 1 = nI (r + 1) := nI_add r 1
      have next : ∀ t', pg t' p = swV (pg t p) r → offP p t t' → wp (M_tonguesOn_2 (nI p) fu (nI r + nI 1) t') (fun t' => pg t' p = swN (pg t p) (n + 1) r ∧ offP p t t') := fun t' h o => by
        rw [e1]
        refine wc (Y_sw hp hR n (r + 1) fu t' ((o 10 1 (by omega) (by decide)).trans e) (by omega) (by omega)) (fun a ha => ⟨?_, o.tr ha.2⟩)
        rw [ha.1, h]; rfl
      refine wm ix3 (by omega) (by decide) (wi (fun q => ?_) (fun q => ?_))
      · have q' : 0 < pg t p (18 + r) := q
        have put : ∀ y0 : Int32, y0 = newV (pg t p) r → wp (M_tonguesOn_72 (M_tonguesOn_2 (nI p) fu) (nI p) (nI r) y0 t) (fun t' => pg t' p = swN (pg t p) (n + 1) r ∧ offP p t t') := fun y0 hy => by
          have go : ∀ z : Int32, (∀ y1, y1 = pg t p 51 → y1 + z = (if newV (pg t p) r = pg t p (30 + r) then pg t p 51 else incV (pg t p 51))) → wp (M_tonguesOn_132 (M_tonguesOn_2 (nI p) fu) (nI p) (nI r) y0 z (t 11 (p + 51)) (nI p + nI 51) t) (fun t' => pg t' p = swN (pg t p) (n + 1) r ∧ offP p t t') := fun z hz => by
            unfold M_tonguesOn_132
            refine wm ix2 (by omega) (by decide) (wsb (wm ix3 (by omega) (by decide) (wsb ?_)))
            refine next _ ?_ (offP.tr (offP.u (by decide)) (offP.u (by omega)))
            rw [pg_up, pg_up, hz (t 11 (p + 51)) rfl, hy]
            unfold swV
            rw [if_pos q']
            by_cases d : newV (pg t p) r = pg t p (30 + r)
            · rw [if_pos d, if_pos d, gu_self, d, gu_self]
            · rw [if_neg d, if_neg d]
          unfold M_tonguesOn_72 M_tonguesOn_109 M_tonguesOn_110
          refine wm ix3 (by omega) (by decide) (wi (fun d => ?_) (fun d => ?_))
          · have d' : newV (pg t p) r = pg t p (30 + r) := hy.symm.trans d
            refine wm ix2 (by omega) (by decide) ?_
            rw [if_pos (by decide)]
            refine go _ (fun y1 hy1 => ?_)
            rw [if_pos d', add_nI0, hy1]
          · have d' : ¬ newV (pg t p) r = pg t p (30 + r) := fun w => d (hy.trans w)
            refine wm ix2 (by omega) (by decide) (wi (fun f => ?_) (fun f => ?_))
            · have f' : pg t p 51 < nI 9999 := f
              refine wm ix2 (by omega) (by decide) ?_
              rw [if_neg (by decide)]
              refine go _ (fun y1 hy1 => ?_)
              unfold incV
              rw [if_neg d', if_pos f', hy1]
            · have f' : ¬ pg t p 51 < nI 9999 := f
              refine wm ix2 (by omega) (by decide) ?_
              rw [if_pos (by decide)]
              refine go _ (fun y1 hy1 => ?_)
              unfold incV
              rw [if_neg d', if_neg f', add_nI0, hy1]
        refine wm ix2 (by omega) (by decide) ?_
        rw [lowOn_eq hp (by omega)]
        refine wsb (wi (fun d => ?_) (fun d => ?_))
        · have d' : lowV (pg t p) r < pg t p r := d
          rw [highOn_eq hp (by omega)]
          refine wsb (wi (fun f => ?_) (fun f => ?_))
          · have f' : pg t p r < highV (pg t p) r := f
            refine wm ix3 (by omega) (by decide) (put _ ?_)
            unfold newV
            rw [if_pos d', if_pos f']; rfl
          · have f' : ¬ pg t p r < highV (pg t p) r := f
            refine put _ ?_
            unfold newV
            rw [if_pos d', if_neg f']
        · have d' : ¬ lowV (pg t p) r < pg t p r := d
          refine put _ ?_
          unfold newV
          rw [if_neg d']
      · refine next t ?_ offP.rf
        have q' : ¬ 0 < pg t p (18 + r) := q
        unfold swV
        rw [if_neg q']
    · rw [nI_ltI (by omega) (by omega)] at cc
      obtain rfl : n = 0 := by omega
      exact ws ⟨rfl, offP.rf⟩
theorem Y_tonguesOn (hp : p + 52 ≤ 312) (hR : R ≤ 6) (e : t 10 1 = nI R) : wp (M_tonguesOn (nI p) t) (fun t' => pg t' p = swN (pg t p) R 0 ∧ offP p t t') := by
  unfold M_tonguesOn
  exact Y_sw hp hR R 0 FU t e (by omega) (by show R < 100000; omega)
def flV (g : Nat → Int32) (x1 x2 : Int32) (q : Nat) : Int32 := (-(lossV g x1 q)) + bnV g x2 q
theorem ring1 (w i o l b : Int32) : w + ((((-l) + b) + i) - o) = (((w + i) - o) - l) + b := by
  simp only [Int32.sub_eq_add_neg]
  ac_rfl
theorem sub_nI0 (x : Int32) : x - nI 0 = x := by rw [nI_0, Int32.sub_zero]
theorem Y_222 (hp : p + 52 ≤ 312) (hR : R ≤ 6) : ∀ (n r fu : Nat) (t : sg), t 10 1 = nI R → pg t p = midV g R x1 x2 r c → (∀ q, q < R → t 16 q = (flV g x1 x2 q + innW g R q) - outW g R q) → r + n = R → n < fu → wp (M_hourOn_222 (nI p) fu (nI r) t) (fun t' => pg t' p = gu (midV g R x1 x2 R c) 49 (g 49 + nI 1) ∧ offP p t t')
  | n, r, 0, t, e, hg, hf0, hr, hf => absurd hf (by omega)
  | n, r, fu + 1, t, e, hg, hf0, hr, hf => by
    rw [M_hourOn_222, e]
    have at_ : ∀ i, t 11 (p + i) = midV g R x1 x2 r c i := fun i => congrFun hg i
    refine wi (fun cc => ?_) (fun cc => ?_)
    · rw [nI_ltI (by omega) (by omega)] at cc
      obtain ⟨n, rfl⟩ : ∃ m, n = m + 1 := ⟨n - 1, by omega⟩
      have e1 : nI r + nI 1 = nI (r + 1) := nI_add r 1
      refine wm ix2 (by omega) (by decide) (wm rfl (by omega) (by decide) ?_)
      have hv : t 11 (p + r) + t 16 r = (((g r + innW g R r) - outW g R r) - lossV g x1 r) + bnV g x2 r := by
        rw [at_ r, mid_hi (by omega) (by omega), hf0 r cc]
        exact ring1 _ _ _ _ _
      rw [hv]
      have go : ∀ y : Int32, y = warmV g R x1 x2 r → wp (M_hourOn_281 (M_hourOn_222 (nI p) fu) (nI p) (nI r) y (nI p + nI r) t) (fun t' => pg t' p = gu (midV g R x1 x2 R c) 49 (g 49 + nI 1) ∧ offP p t t') := fun y hy => by
        unfold M_hourOn_281
        refine wm ix2 (by omega) (by decide) (wsb ?_)
        rw [e1]
        refine wc (Y_222 hp hR n (r + 1) fu _ ((up_p (by decide)).trans e) ?_ (fun q hq => (up_p (by decide)).trans (hf0 q hq)) (by omega) (by omega)) (fun a ha => ⟨ha.1, (offP.u (by omega)).tr ha.2⟩)
        rw [pg_up, hg, hy]
        funext i
        by_cases z : i = r
        · rw [z, gu_eq, mid_lo (by omega)]
        · rw [gu_ne z]
          unfold midV
          by_cases z2 : i < r
          · rw [if_pos z2, if_pos (by omega)]
          · rw [if_neg z2, if_neg (show ¬ i < r + 1 by omega)]
      refine wi (fun d => go _ ?_) (fun d => wi (fun f => go _ ?_) (fun f => go _ ?_))
      · unfold warmV clV; rw [if_pos d]
      · unfold warmV clV; rw [if_neg d, if_pos f]
      · unfold warmV clV; rw [if_neg d, if_neg f]
    · rw [nI_ltI (by omega) (by omega)] at cc
      obtain rfl : n = 0 := by omega
      obtain rfl : r = R := by omega
      refine wm ix2 (by omega) (by decide) (wm ix2 (by omega) (by decide) (wsb (ws ⟨?_, offP.u (by decide)⟩)))
      rw [pg_up, hg, at_ 49, mid_hi (show r ≤ 49 by omega) (by decide)]
/-- the flows when the walls below r are through -/
def fwV (g : Nat → Int32) (R : Nat) (x1 x2 : Int32) (r q : Nat) : Int32 := if q < r then (flV g x1 x2 q + innW g R q) - outW g R q else if q = r then flV g x1 x2 q + innW g R q else flV g x1 x2 q
theorem Y_135 (hp : p + 52 ≤ 312) (hR : R ≤ 6) : ∀ (n r fu : Nat) (t : sg), t 10 1 = nI R → pg t p = gu g 50 c → (∀ q, q < R → t 16 q = fwV g R x1 x2 r q) → r + n = R → n < fu → wp (M_hourOn_135 (nI p) fu (nI r) t) (fun t' => pg t' p = gu (midV g R x1 x2 R c) 49 (g 49 + nI 1) ∧ offP p t t')
  | n, r, 0, t, e, hg, hf0, hr, hf => absurd hf (by omega)
  | n, r, fu + 1, t, e, hg, hf0, hr, hf => by
    rw [M_hourOn_135, e]
    have at_ : ∀ i, i ≠ 50 → t 11 (p + i) = g i := fun i hi => (congrFun hg i).trans (gu_ne hi)
    refine wi (fun cc => ?_) (fun cc => ?_)
    · rw [nI_m1 (by omega) (by omega)] at cc
      obtain ⟨n, rfl⟩ : ∃ m, n = m + 1 := ⟨n - 1, by omega⟩
      have e1 : nI r + nI 1 = nI (r + 1) := nI_add r 1
      have i1 : nI p + nI r + nI 1 = nI (p + (r + 1)) := by rw [nI_add, nI_add, Nat.add_assoc]
      refine wm ix3 (by omega) (by decide) (wm ix2 (by omega) (by decide) (wm i1 (by omega) (by decide) (wm rfl (by omega) (by decide) (wm rfl (by omega) (by decide) (wsb (wm e1 (by omega) (by decide) (wm e1 (by omega) (by decide) (wsb ?_))))))))
      rw [e1]
      have ho : (((t 11 (p + (36 + r))) + (nI 2)) * ((t 11 (p + r)) - (t 11 (p + (r + 1))))) / (nI 10) = outW g R r := by
        unfold outW
        rw [if_pos cc, at_ _ (by omega), at_ _ (by omega), at_ _ (by omega)]
      rw [ho]
      refine wc (Y_135 hp hR n (r + 1) fu _ ?_ ?_ (fun q hq => ?_) (by omega) (by omega)) (fun a ha => ⟨ha.1, (offP.tr offP.w offP.w).tr ha.2⟩)
      · rw [up_p (by decide), up_p (by decide)]; exact e
      · rw [pg_16 (by decide), pg_16 (by decide)]; exact hg
      · by_cases z1 : q = r + 1
        · subst z1
          rw [up_eq, up_k (by omega), hf0 _ hq]
          unfold fwV
          rw [if_neg (by omega), if_neg (by omega), if_neg (by omega), if_pos rfl]; rfl
        · rw [up_k z1]
          by_cases z2 : q = r
          · subst z2
            rw [up_eq, hf0 _ hq]
            unfold fwV
            rw [if_neg (by omega), if_pos rfl, if_pos (by omega)]
          · rw [up_k z2, hf0 _ hq]
            unfold fwV
            by_cases z3 : q < r
            · rw [if_pos z3, if_pos (by omega)]
            · rw [if_neg z3, if_neg z2, if_neg (by omega), if_neg z1]
    · rw [nI_m1 (by omega) (by omega)] at cc
      refine Y_222 hp hR R 0 FU t e (by rw [mid_0]; exact hg) (fun q hq => ?_) (by omega) (by show R < 100000; omega)
      rw [hf0 q hq]
      unfold fwV
      by_cases z : q < r
      · rw [if_pos z]
      · have ho : outW g R q = nI 0 := by unfold outW; rw [if_neg (by omega)]
        rw [if_neg z, if_pos (by omega), ho, sub_nI0]
theorem Y_8 (hp : p + 52 ≤ 312) (hR : R ≤ 6) : ∀ (n r fu : Nat) (t : sg) (c : Int32), t 10 1 = nI R → pg t p = gu g 50 c → (∀ q, q < r → t 16 q = flV g x1 x2 q) → r + n = R → n < fu → wp (M_hourOn_8 (nI p) x1 x2 fu (nI r) t) (fun t' => pg t' p = gu (midV g R x1 x2 R (brV g x2 n r c)) 49 (g 49 + nI 1) ∧ offP p t t')
  | n, r, 0, t, c, e, hg, hf0, hr, hf => absurd hf (by omega)
  | n, r, fu + 1, t, c, e, hg, hf0, hr, hf => by
    rw [M_hourOn_8, e]
    have at_ : ∀ i, i ≠ 50 → t 11 (p + i) = g i := fun i hi => (congrFun hg i).trans (gu_ne hi)
    refine wi (fun cc => ?_) (fun cc => ?_)
    · rw [nI_ltI (by omega) (by omega)] at cc
      obtain ⟨n, rfl⟩ : ∃ m, n = m + 1 := ⟨n - 1, by omega⟩
      have e1 : nI r + nI 1 = nI (r + 1) := nI_add r 1
      refine wm ix3 (by omega) (by decide) (wm ix2 (by omega) (by decide) (wm rfl (by omega) (by decide) (wsb (wm ix3 (by omega) (by decide) ?_))))
      have hl : ((t 11 (p + (6 + r))) * ((t 11 (p + r)) - x1)) / (nI 10) = lossV g x1 r := by rw [at_ _ (by omega), at_ _ (by omega)]; rfl
      rw [hl, up_p (show 11 ≠ 16 by decide), at_ (30 + r) (by omega)]
      have go : ∀ (t' : sg) (c' : Int32), c' = (if g (30 + r) = nI 1 ∧ x2 = 0 then incV c else c) → offP p t t' → pg t' p = gu g 50 c' → t' 16 r = flV g x1 x2 r → (∀ q, q ≠ r → t' 16 q = t 16 q) → wp (M_hourOn_8 (nI p) x1 x2 fu (nI r + nI 1) t') (fun t' => pg t' p = gu (midV g R x1 x2 R (brV g x2 (n + 1) r c)) 49 (g 49 + nI 1) ∧ offP p t t') := fun t' c' hc' o h1 h2 h3 => by
        rw [e1]
        refine wc (Y_8 hp hR n (r + 1) fu t' c' ((o 10 1 (by omega) (by decide)).trans e) h1 (fun q hq => ?_) (by omega) (by omega)) (fun a ha => ⟨?_, o.tr ha.2⟩)
        · by_cases z : q = r
          · rw [z]; exact h2
          · rw [h3 q z]; exact hf0 q (by omega)
        · rw [ha.1, brV, ← hc']
      have plain : ¬ (g (30 + r) = nI 1 ∧ x2 = 0) → wp (M_hourOn_8 (nI p) x1 x2 fu (nI r + nI 1) (up t 16 r (-(lossV g x1 r)))) (fun t' => pg t' p = gu (midV g R x1 x2 R (brV g x2 (n + 1) r c)) 49 (g 49 + nI 1) ∧ offP p t t') := fun q => by
        refine go _ c (by rw [if_neg q]) offP.w (by rw [pg_16 (by decide)]; exact hg) ?_ (fun k hk => up_k hk)
        rw [up_eq]
        unfold flV bnV
        rw [if_neg q, add_nI0]
      refine wi (fun q => wi (fun z => ?_) (fun z => plain (fun w => z w.2))) (fun q => plain (fun w => q w.1))
      refine wm rfl (by omega) (by decide) (wm ix3 (by omega) (by decide) (wm rfl (by omega) (by decide) (wsb (wm ix2 (by omega) (by decide) (wm ix2 (by omega) (by decide) ?_)))))
      rw [up_eq, up_p (show 11 ≠ 16 by decide), up_p (show 11 ≠ 16 by decide), up_p (show 11 ≠ 16 by decide), at_ (12 + r) (by omega)]
      have h50 : t 11 (p + 50) = c := (congrFun hg 50).trans gu_eq
      rw [h50]
      have fin : ∀ y0 : Int32, c + y0 = incV c → wp (M_hourOn_124 (M_hourOn_8 (nI p) x1 x2 fu) (nI p) x1 x2 (nI r) y0 c (nI p + nI 50) (up (up t 16 r (-(lossV g x1 r))) 16 r (-(lossV g x1 r) + g (12 + r)))) (fun t' => pg t' p = gu (midV g R x1 x2 R (brV g x2 (n + 1) r c)) 49 (g 49 + nI 1) ∧ offP p t t') := fun y0 hy => by
        unfold M_hourOn_124
        refine wm ix2 (by omega) (by decide) (wsb ?_)
        rw [hy]
        refine go _ (incV c) (by rw [if_pos ⟨q, z⟩]) ((offP.tr offP.w offP.w).tr (offP.u (by decide))) ?_ ?_ (fun k hk => ?_)
        · rw [pg_up, pg_16 (by decide), pg_16 (by decide), hg]
          funext i
          unfold gu
          by_cases w : i = 50
          · rw [if_pos w, if_pos w]
          · rw [if_neg w, if_neg w, if_neg w]
        · rw [up_p (by decide), up_eq]
          unfold flV bnV
          rw [if_pos ⟨q, z⟩]
        · rw [up_p (by decide), up_k hk, up_k hk]
      refine wi (fun w => fin _ ?_) (fun w => fin _ ?_)
      · unfold incV; rw [if_pos w]
      · unfold incV; rw [if_neg w, add_nI0]
    · rw [nI_ltI (by omega) (by omega)] at cc
      obtain rfl : n = 0 := by omega
      refine Y_135 hp hR R 0 FU t e hg (fun q hq => ?_) (by omega) (by show R < 100000; omega)
      rw [hf0 q (by omega)]
      unfold fwV
      rw [if_neg (by omega)]
      by_cases z : q = 0
      · rw [if_pos z, z]
        show _ = _ + nI 0
        rw [add_nI0]
      · rw [if_neg z]
theorem Y_hourOn (hp : p + 52 ≤ 312) (hR : R ≤ 6) (e : t 10 1 = nI R) : wp (M_hourOn (nI p) x1 x2 t) (fun t' => pg t' p = hourV R x1 x2 (pg t p) ∧ offP p t t') := by
  unfold M_hourOn
  refine wb (Y_tonguesOn hp hR e) (fun t1 h => ?_)
  exact wc (Y_8 (g := swN (pg t p) R 0) hp hR R 0 FU t1 (swN (pg t p) R 0 50) ((h.2 10 1 (by omega) (by decide)).trans e) (by rw [gu_self]; exact h.1) (fun q hq => absurd hq (by omega)) (by omega) (by show R < 100000; omega)) (fun a ha => ⟨ha.1, h.2.tr ha.2⟩)
theorem outOn_eq {h : Nat} (hp : p + 52 ≤ 312) (e : pg t p 49 = nI h) (hh : h < 2 ^ 30) : M_outOn (nI p) t = some (skyV (pg t p)) := by
  unfold M_outOn skyV
  have e' : t 11 (p + 49) = nI h := e
  rw [ix2, midx_nI (by omega) (by decide)]
  show (midx ((nI p + nI 41) + (t 11 (p + 49) - t 11 (p + 49) / nI 8 * nI 8)) 312).bind _ = _
  rw [e', rem8 hh, ix3, midx_nI (by omega) (by decide), e, sky_i hh]
  rfl
theorem Y_goesOn {h : Nat} (hp : p + 52 ≤ 312) (hR : R ≤ 6) (e : t 10 1 = nI R) (e9 : pg t p 49 = nI h) (hh : h < 2 ^ 30) : wp (M_goesOn (nI p) t) (fun t' => pg t' p = nextV R (pg t p) ∧ offP p t t') := by
  unfold M_goesOn
  rw [outOn_eq hp e9 hh]
  exact wsb (wb (Y_hourOn hp hR e) (fun a ha => ws ha))
end MHOUR
