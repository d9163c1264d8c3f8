/-! questions: hours that run ahead, by both -/
def clN (f : Nat → Int32) : Nat → Nat → Int32 → Int32
  | 0, _, a => a
  | n + 1, r, a => clN f n (r + 1) (if f r < a then f r else a)
def coldM (R : Nat) (g : Nat → Int32) : Int32 := if R = 0 then -4 else clN g R 0 (nI 99)
def mnV (R : Nat) : Nat → (Nat → Int32) → Int32 → Int32
  | 0, _, a => a
  | n + 1, g, a => mnV R n (nextV R g) (if coldM R (nextV R g) < a then coldM R (nextV R g) else a)
theorem clN_e {f g : Nat → Int32} : ∀ (n r : Nat) (a : Int32), (∀ i, r ≤ i → i < r + n → f i = g i) → clN f n r a = clN g n r a
  | 0, r, a, h => rfl
  | n + 1, r, a, h => by
    rw [clN, clN, h r (Nat.le_refl _) (by omega)]
    exact clN_e n (r + 1) _ (fun i h1 h2 => h i (by omega) (by omega))
section RUNS
variable {s t t0' : sg} {b R p : Nat} {g : Nat → Int32} {x x1 x2 x3 x4 : Int32}
theorem X_cold5 (H : HR s b g R) : ∀ (n r fu : Nat) (a : Int32), r + n = R → n < fu → H_coldestNow_5 b s fu a (nI r) = some (clN g n r a)
  | n, r, 0, a, hr, hf => absurd hf (by omega)
  | n, r, fu + 1, a, hr, hf => by
    have h6 := H.r6
    rw [H_coldestNow_5, H.rm]
    by_cases c : r < R
    · obtain ⟨n, rfl⟩ : ∃ k, n = k + 1 := ⟨n - 1, by omega⟩
      rw [if_pos ((nI_ltI (by omega) (by omega)).mpr c), midx_nI (by omega) (by decide)]
      show H_coldestNow_5 b s fu (if s (b + 1) r < a then s (b + 1) r else a) (nI r + nI 1) = _
      rw [H.w c, nI_add, clN]
      exact X_cold5 H n (r + 1) fu _ (by omega) (by omega)
    · obtain rfl : n = 0 := by omega
      rw [if_neg (fun z => c ((nI_ltI (by omega) (by omega)).mp z))]; rfl
theorem X_coldest (H : HR s b g R) : H_coldestNow b s = some (clN g R 0 (nI 99)) := by
  unfold H_coldestNow
  exact X_cold5 H R 0 FU _ (by omega) (by have := H.r6; show R < 100000; omega)
theorem Y_cold17 (e : t 10 1 = nI R) (hR : R ≤ 6) (hp : p + 52 ≤ 312) : ∀ (n r fu : Nat) (a : Int32), r + n = R → n < fu → M_coldestOn_17 (nI p) t fu a (nI r) = some (clN (pg t p) n r a)
  | n, r, 0, a, hr, hf => absurd hf (by omega)
  | n, r, fu + 1, a, hr, hf => by
    rw [M_coldestOn_17, e]
    by_cases c : r < R
    · obtain ⟨n, rfl⟩ : ∃ k, n = k + 1 := ⟨n - 1, by omega⟩
      rw [if_pos ((nI_ltI (by omega) (by omega)).mpr c), nI_add, midx_nI (by omega) (by decide), nI_add, clN]
      show (if t 11 (p + r) < a then M_coldestOn_17 (nI p) t fu (t 11 (p + r)) (nI (r + 1)) else M_coldestOn_17 (nI p) t fu a (nI (r + 1))) = _
      by_cases d : t 11 (p + r) < a
      · rw [if_pos d, if_pos (show pg t p r < a from d)]
        exact Y_cold17 e hR hp n (r + 1) fu _ (by omega) (by omega)
      · rw [if_neg d, if_neg (show ¬ pg t p r < a from d)]
        exact Y_cold17 e hR hp n (r + 1) fu _ (by omega) (by omega)
    · obtain rfl : n = 0 := by omega
      rw [if_neg (fun z => c ((nI_ltI (by omega) (by omega)).mp z))]; rfl
theorem Y_coldest (e : t 10 1 = nI R) (hR : R ≤ 6) (hp : p + 52 ≤ 312) : M_coldestOn (nI p) t = some (coldM R (pg t p)) := by
  unfold M_coldestOn coldM
  rw [e]
  by_cases c : R = 0
  · subst c
    rw [if_pos (by decide), if_pos rfl, Y_cold17 e hR hp 0 0 FU _ (by omega) (by decide)]; rfl
  · rw [if_neg (nI_ne0 (by omega) (by omega)), if_neg c, Y_cold17 e hR hp R 0 FU _ (by omega) (by show R < 100000; omega)]
theorem Y_hg27 {N : Nat} (hN : N < 1000) (hR : R ≤ 6) : ∀ (n r fu : Nat) (t : sg) (h : Nat), t 10 1 = nI R → pg t 208 49 = nI h → h + n < 2 ^ 29 → r + n = N → n < fu → wp (M_hoursGo_27 (nI N) fu (nI r) t) (fun v => pg v.2 208 = hoursV R n (pg t 208) ∧ v.1 = hoursV R n (pg t 208) 50 - t 11 50 ∧ v.2 10 19 = mnV R n (pg t 208) (t 10 19) ∧ v.2 10 20 = mnV R n (pg t 208) (t 10 20) ∧ offS t v.2)
  | n, r, 0, t, h, e, e9, hh, hr, hf => absurd hf (by omega)
  | n, r, fu + 1, t, h, e, e9, hh, hr, hf => by
    rw [M_hoursGo_27]
    refine wi (fun c => ?_) (fun c => ?_)
    · have hc := (nI_ltI (by omega) (by omega)).mp c
      obtain ⟨n, rfl⟩ : ∃ m, n = m + 1 := ⟨n - 1, by omega⟩
      refine wb (Y_goesOn (by decide) hR e e9 (by omega)) (fun t1 g1 => ?_)
      have e1 : t1 10 1 = nI R := (g1.2 10 1 (by omega) (by decide)).trans e
      rw [Y_coldest e1 hR (by decide)]
      refine wsb ?_
      rw [g1.1]
      have k19 : t1 10 19 = t 10 19 := g1.2 10 19 (by omega) (by decide)
      have k20 : t1 10 20 = t 10 20 := g1.2 10 20 (by omega) (by decide)
      have k50 : t1 11 50 = t 11 50 := g1.2 11 50 (by omega) (by decide)
      have fin : ∀ y z : Int32, y = (if coldM R (nextV R (pg t 208)) < t 10 19 then coldM R (nextV R (pg t 208)) else t 10 19) → z = (if coldM R (nextV R (pg t 208)) < t 10 20 then coldM R (nextV R (pg t 208)) else t 10 20) → wp (M_hoursGo_27 (nI N) fu (nI (r + 1)) (up (up t1 10 19 y) 10 20 z)) (fun v => pg v.2 208 = hoursV R (n + 1) (pg t 208) ∧ v.1 = hoursV R (n + 1) (pg t 208) 50 - t 11 50 ∧ v.2 10 19 = mnV R (n + 1) (pg t 208) (t 10 19) ∧ v.2 10 20 = mnV R (n + 1) (pg t 208) (t 10 20) ∧ offS t v.2) := fun y z hy hz => by
        have ep : pg (up (up t1 10 19 y) 10 20 z) 208 = nextV R (pg t 208) := by rw [pg_16 (by decide), pg_16 (by decide)]; exact g1.1
        refine wc (Y_hg27 hN hR n (r + 1) fu _ (h + 1) ?_ (by rw [ep]; exact nextV_49 hR e9) (by omega) (by omega) (by omega)) (fun v hv => ?_)
        · rw [up_k (by decide), up_k (by decide)]; exact e1
        · rw [ep, up_eq, up_k (show 19 ≠ 20 by decide), up_eq, up_p (show 11 ≠ 10 by decide), up_p (show 11 ≠ 10 by decide), k50] at hv
          refine ⟨hv.1, hv.2.1, ?_, ?_, (offP.s g1.2).tr (((offS.u10 (by decide)).tr (offS.u10 (by decide))).tr hv.2.2.2.2)⟩
          · rw [hv.2.2.1, mnV, hy]
          · rw [hv.2.2.2.1, mnV, hz]
      have go : ∀ y : Int32, y = (if coldM R (nextV R (pg t 208)) < t 10 19 then coldM R (nextV R (pg t 208)) else t 10 19) → wp (M_hoursGo_67 (M_hoursGo_27 (nI N) fu) (nI N) (nI r) (coldM R (nextV R (pg t 208))) y t1) (fun v => pg v.2 208 = hoursV R (n + 1) (pg t 208) ∧ v.1 = hoursV R (n + 1) (pg t 208) 50 - t 11 50 ∧ v.2 10 19 = mnV R (n + 1) (pg t 208) (t 10 19) ∧ v.2 10 20 = mnV R (n + 1) (pg t 208) (t 10 20) ∧ offS t v.2) := fun y hy => by
        unfold M_hoursGo_67 M_hoursGo_89
        refine wsb ?_
        rw [up_k (show 20 ≠ 19 by decide), k20, nI_add]
        refine wi (fun d => wsb (fin _ _ hy ?_)) (fun d => wsb (fin _ _ hy ?_))
        · rw [if_pos d]
        · rw [if_neg d]
      rw [k19]
      refine wi (fun d => go _ ?_) (fun d => go _ ?_)
      · rw [if_pos d]
      · rw [if_neg d]
    · have hc : ¬ r < N := fun z => c ((nI_ltI (by omega) (by omega)).mpr z)
      obtain rfl : n = 0 := by omega
      exact wm rfl (by decide) (by decide) (wm rfl (by decide) (by decide) (ws ⟨rfl, rfl, rfl, rfl, offS.rf⟩))
def pgc (t : sg) (a : Nat) : Nat → Int32 := pg (cpM t a 208 52) 208
theorem pgc_e {a i : Nat} (hi : i < 52) : pgc t a i = pg t a i := cpM_at hi
theorem Y_hoursGo {N a h : Nat} (hN : N < 1000) (hR : R ≤ 6) (e : t 10 1 = nI R) (ha : a + 52 ≤ 208 ∨ (260 ≤ a ∧ a + 52 ≤ 312)) (e9 : pg t a 49 = nI h) (hh : h < 2 ^ 28) : wp (M_hoursGo (nI a) (nI N) t) (fun v => pg v.2 208 = hoursV R N (pgc t a) ∧ v.1 = hoursV R N (pgc t a) 50 - t 11 50 ∧ v.2 10 19 = mnV R N (pgc t a) (coldM R (pgc t a)) ∧ v.2 10 20 = mnV R N (pgc t a) (nI 99) ∧ offS t v.2) := by
  unfold M_hoursGo
  rw [copies_eq (by omega) (by decide) (by omega)]
  refine wsb ?_
  have e1 : (cpM t a 208 52) 10 1 = nI R := (cpM_ne (Or.inl (by decide))).trans e
  rw [Y_coldest e1 hR (by decide)]
  refine wsb (wsb (wsb ?_))
  have ep : pg (up (up (cpM t a 208 52) 10 19 (coldM R (pg (cpM t a 208 52) 208))) 10 20 (nI 99)) 208 = pgc t a := by rw [pg_16 (by decide), pg_16 (by decide)]; rfl
  refine wc (Y_hg27 hN hR N 0 FU _ h ?_ (by rw [ep, pgc_e (by decide)]; exact e9) (by omega) (by omega) (by show N < 100000; omega)) (fun v hv => ?_)
  · rw [up_k (by decide), up_k (by decide)]; exact e1
  · rw [ep, up_eq, up_k (show 19 ≠ 20 by decide), up_eq, up_p (show 11 ≠ 10 by decide), up_p (show 11 ≠ 10 by decide), cpM_ne (show 11 ≠ 11 ∨ 50 < 208 ∨ 208 + 52 ≤ 50 by omega)] at hv
    refine ⟨hv.1, hv.2.1, hv.2.2.1, hv.2.2.2.1, ?_⟩
    refine offS.tr (fun q k a1 a2 a3 => ?_) (((offS.u10 (by decide)).tr (offS.u10 (by decide))).tr hv.2.2.2.2)
    exact cpM_ne (by omega)
/-- the class's copy of the house that stands -/
theorem RG.cp53 (G : RG s t R) : HR (cpH s 53 11) 53 (pgc t 0) R := HR.e G.h.copy (fun i hi => pgc_e hi)
theorem cpNow_eq : C_copyOfNow s = some (cpH s 53 11) := by
  unfold C_copyOfNow
  rw [copyFrom_eq (show dj 53 11 from Or.inr (by decide))]; rfl
theorem RG.h9 {h R' : Nat} (G : RG s t R) (H : HS s 11 R' h) : pgc t 0 49 = nI h := (pgc_e (by decide)).trans (G.hh H)
theorem mnV_0 : ∀ (n : Nat) (g : Nat → Int32), mnV 0 n g (-4) = -4
  | 0, g => rfl
  | n + 1, g => by
    rw [mnV]
    have e : coldM 0 (nextV 0 g) = -4 := by unfold coldM; rw [if_pos rfl]
    rw [e, if_neg (by decide)]
    exact mnV_0 n _
theorem X_cw13 {N : Nat} (hN : N < 1000) (h0 : ¬ R = 0) : ∀ (n r fu : Nat) (s : sg) (g : Nat → Int32) (h : Nat) (a : Int32), HR s 53 g R → g 49 = nI h → h + n < 2 ^ 29 → r + n = N → n < fu → wp (C_coldestWithin_13 (nI N) fu a (nI r) s) (fun v => v.1 = mnV R n g a)
  | n, r, 0, s, g, h, a, H, e, hh, hr, hf => absurd hf (by omega)
  | n, r, fu + 1, s, g, h, a, H, e, hh, hr, hf => by
    rw [C_coldestWithin_13]
    refine wi (fun c => ?_) (fun c => ?_)
    · have hc := (nI_ltI (by omega) (by omega)).mp c
      obtain ⟨n, rfl⟩ : ∃ m, n = m + 1 := ⟨n - 1, by omega⟩
      refine wb (X_passHour H e (by omega)) (fun s1 h1 => ?_)
      rw [X_coldest h1.1, nI_add, mnV]
      refine wsb ?_
      have ec : coldM R (nextV R g) = clN (nextV R g) R 0 (nI 99) := by unfold coldM; rw [if_neg h0]
      rw [ec]
      exact X_cw13 hN h0 n (r + 1) fu s1 _ (h + 1) _ h1.1 (nextV_49 H.r6 e) (by omega) (by omega) (by omega)
    · have hc : ¬ r < N := fun z => c ((nI_ltI (by omega) (by omega)).mpr z)
      obtain rfl : n = 0 := by omega
      exact ws rfl
def JA (a b : Int32 × sg) : Prop := a.1 = b.1
theorem J_runs (F : RF s t) : w2 (C_runs x1 x2 s) (M_runs x1 x2 t) (fun a b => a.1 = b.1) := by
  obtain ⟨⟨R, G⟩, I, M⟩ := F
  have H := G.h
  have h6 := H.r6
  obtain ⟨R', h, hh, Hs⟩ := I.1
  have e9 := G.h9 Hs
  unfold C_runs M_runs
  refine w2P within_eq (inP (by decide) (by decide)) (fun _ => w2s rfl) (fun c1 => ?_)
  obtain ⟨N, hN, rfl⟩ := in_j (by decide) c1
  refine w2P within_eq (inP (by decide) (by decide)) (fun _ => w2s rfl) (fun c2 => ?_)
  obtain ⟨k, hk, rfl⟩ := in_j (by decide) c2
  obtain ⟨v, ev, g1, g2, g3, g4, oS⟩ := Y_hoursGo (N := N) (a := 0) (h := h) (by omega) h6 G.r (by omega) (G.hh Hs) (by omega)
  rw [ev]
  refine w2sr ?_
  have hp : HR (cpH s 53 11) 53 (pgc t 0) R := G.cp53
  have run : ∀ Q : Int32 × sg → Option (Int32 × sg), (∀ u : Int32 × sg, HR u.2 53 (pg v.2 208) R → u.1 = v.1 → (∀ p, ¬ (53 ≤ p ∧ p ≤ 60) → u.2 p = s p) → w2 (Q u) (if nI k = nI 0 then some (v.1, v.2) else if nI k = nI 1 then (midx (nI 259) 312).bind fun j1 => (midx (nI 51) 312).bind fun j2 => some ((v.2 11 j1) - (v.2 11 j2), v.2) else if nI k = nI 2 then (M_warmthOn (nI 208) v.2).bind fun v4 => some (v4, v.2) else if nI k = nI 3 then some (v.2 10 19, v.2) else (M_onOn (nI 208) v.2).bind fun v5 => some (v5, v.2)) (fun a b => a.1 = b.1)) → w2 ((C_copyOfNow s).bind fun s1 => (H_passHours 53 (nI N) s1).bind Q) (if nI k = nI 0 then some (v.1, v.2) else if nI k = nI 1 then (midx (nI 259) 312).bind fun j1 => (midx (nI 51) 312).bind fun j2 => some ((v.2 11 j1) - (v.2 11 j2), v.2) else if nI k = nI 2 then (M_warmthOn (nI 208) v.2).bind fun v4 => some (v4, v.2) else if nI k = nI 3 then some (v.2 10 19, v.2) else (M_onOn (nI 208) v.2).bind fun v5 => some (v5, v.2)) (fun a b => a.1 = b.1) := fun Q hQ => by
    rw [cpNow_eq]
    refine w2sl (w2bl (X_passHours (by omega) hp e9 (by omega)) (fun u hu => hQ u ?_ ?_ (fun p hp' => ?_)))
    · rw [g1]; exact hu.1
    · rw [hu.2.2, g2, pgc_e (by decide), pg0]
    · rw [hu.2.1 p (by omega), cpH_off p (by omega)]
  have e1 : v.2 10 1 = nI R := (oS 10 1 (by omega) (by decide) (by omega)).trans G.r
  have hk' : k = 0 ∨ k = 1 ∨ k = 2 ∨ k = 3 ∨ k = 4 := by omega
  rcases hk' with rfl | rfl | rfl | rfl | rfl
  · rw [if_neg (by decide)]
    refine run _ (fun u h1 h2 h3 => ?_)
    rw [if_pos rfl, if_pos rfl]
    exact w2s h2
  · rw [if_neg (by decide)]
    refine run _ (fun u h1 h2 h3 => ?_)
    rw [if_neg (by decide), if_pos rfl, if_neg (by decide), if_pos rfl]
    refine w2r rfl (by decide) (by decide) (w2r rfl (by decide) (by decide) (w2s ?_))
    show u.2 53 4 - u.2 11 4 = v.2 11 (208 + 51) - v.2 11 51
    have z1 : u.2 53 4 = v.2 11 (208 + 51) := h1.sw.1
    rw [z1, h3 11 (by omega), H.sw.1, pg0, oS 11 51 (by omega) (by decide) (by omega)]
  · rw [if_neg (by decide)]
    refine run _ (fun u h1 h2 h3 => ?_)
    rw [if_neg (by decide), if_neg (by decide), if_pos rfl, if_neg (by decide), if_neg (by decide), if_pos rfl, warm_eq h1, Y_warmthOn e1 h6 (by decide)]
    exact w2s rfl
  · rw [if_pos (show nI 3 = nI 3 from rfl), if_neg (show ¬ nI 3 = nI 0 by decide), if_neg (show ¬ nI 3 = nI 1 by decide), if_neg (show ¬ nI 3 = nI 2 by decide), H.rm]
    by_cases c : R = 0
    · rw [if_pos (by rw [c]; decide)]
      refine w2s ?_
      show -4 = v.2 10 19
      have ec : coldM R (pgc t 0) = -4 := by unfold coldM; rw [if_pos c]
      rw [g3, ec, c, mnV_0]
    · rw [if_neg (nI_ne0 (by omega) (by omega))]
      unfold C_coldestWithin
      rw [cpNow_eq]
      refine w2bl (P := fun u => u.1 = mnV R N (pgc t 0) (coldM R (pgc t 0))) ?_ (fun u hu => w2s ?_)
      · refine wsb ?_
        rw [X_coldest hp]
        refine wsb ?_
        have ec : coldM R (pgc t 0) = clN (pgc t 0) R 0 (nI 99) := by unfold coldM; rw [if_neg c]
        rw [ec]
        exact X_cw13 (by omega) c N 0 FU _ _ h _ hp e9 (by omega) (by omega) (by show N < 100000; omega)
      · show u.1 = v.2 10 19
        rw [hu, g3]
  · rw [if_neg (by decide)]
    refine run _ (fun u h1 h2 h3 => ?_)
    rw [if_neg (by decide), if_neg (by decide), if_neg (by decide), if_neg (by decide), if_neg (by decide), if_neg (by decide), if_neg (by decide), onOn_eq h1 e1 (by decide)]
    exact w2s rfl
theorem J_ahead (F : RF s t) : w2 (C_ahead x1 x2 x3 s) (M_ahead x1 x2 x3 t) (fun a b => a.1 = b.1) := by
  obtain ⟨⟨R, G⟩, I, M⟩ := F
  have H := G.h
  have h6 := H.r6
  obtain ⟨R', h, hh, Hs⟩ := I.1
  have e9 := G.h9 Hs
  unfold C_ahead M_ahead
  refine w2P (hasRoom_P H.rm) (isRoom_P G.r h6) (fun _ => w2s rfl) (fun c0 => ?_)
  obtain ⟨j, hj, rfl⟩ := room_j h6 c0
  refine w2P within_eq (inP (by decide) (by decide)) (fun _ => w2s rfl) (fun c1 => ?_)
  obtain ⟨N, hN, rfl⟩ := in_j (by decide) c1
  refine w2P within_eq (inP (by decide) (by decide)) (fun _ => w2s rfl) (fun c2 => ?_)
  obtain ⟨v, ev, g1, g2, g3, g4, oS⟩ := Y_hoursGo (N := N) (a := 0) (h := h) (by omega) h6 G.r (by omega) (G.hh Hs) (by omega)
  rw [ev, cpNow_eq]
  refine w2sl (w2sr (w2bl (X_passHours (by omega) G.cp53 e9 (by omega)) (fun u hu => ?_)))
  have h1 : HR u.2 53 (pg v.2 208) R := by rw [g1]; exact hu.1
  rw [nI_add, nI_add]
  refine w2i (fun _ => ?_) (fun _ => ?_)
  · refine w2l rfl (by omega) (by decide) (w2r rfl (by omega) (by decide) (w2s ?_))
    exact h1.w hj
  · refine w2r rfl (by omega) (by decide) ?_
    have e : v.2 11 (238 + j) = pg v.2 208 (30 + j) := by unfold pg; rw [show 208 + (30 + j) = 238 + j by omega]
    rw [e]
    refine w2Pl (isOn_eq h1 hj) (fun d => w2s ?_) (fun d => w2s ?_)
    · exact ((h1.bit hj).resolve_right d).symm
    · exact d.symm
theorem K_cold {j : Nat} (hj : j < R) : ∀ (n r fu fu' : Nat) (s t : sg) (h : Nat), HR s 53 (pg t 208) R → t 10 1 = nI R → pg t 208 49 = nI h → h + n < 2 ^ 29 → r + n = 61 → n < fu → n < fu' → w2 (C_cold_31 (nI j) x2 fu (nI r) s) (M_cold_32 (nI j) x2 fu' (nI r) t) (fun a b => a.1 = b.1)
  | n, r, 0, fu', s, t, h, H, e, e9, hh, hr, hf, hf' => absurd hf (by omega)
  | n, r, fu + 1, 0, s, t, h, H, e, e9, hh, hr, hf, hf' => absurd hf' (by omega)
  | n, r, fu + 1, fu' + 1, s, t, h, H, e, e9, hh, hr, hf, hf' => by
    have h6 := H.r6
    rw [C_cold_31, M_cold_32, nI_add, nI_add]
    refine w2i (fun _ => w2s rfl) (fun c => ?_)
    have hc : ¬ 60 < r := fun z => c ((nI_ltI (by decide) (by omega)).mpr z)
    obtain ⟨n, rfl⟩ : ∃ m, n = m + 1 := ⟨n - 1, by omega⟩
    refine w2l rfl (by omega) (by decide) (w2r rfl (by omega) (by decide) ?_)
    have ew : s 54 j = t 11 (208 + j) := H.w hj
    rw [ew]
    refine w2i (fun _ => ?_) (fun _ => w2s rfl)
    refine w2bl (X_passHour H e9 (by omega)) (fun s1 h1 => w2br (Y_goesOn (by decide) h6 e e9 (by omega)) (fun t1 g1 => ?_))
    exact K_cold hj n (r + 1) fu fu' s1 t1 (h + 1) (by rw [g1.1]; exact h1.1) ((g1.2 10 1 (by omega) (by decide)).trans e) (by rw [g1.1]; exact nextV_49 h6 e9) (by omega) (by omega) (by omega) (by omega)
theorem J_cold (F : RF s t) : w2 (C_cold x1 x2 s) (M_cold x1 x2 t) (fun a b => a.1 = b.1) := by
  obtain ⟨⟨R, G⟩, I, M⟩ := F
  have H := G.h
  have h6 := H.r6
  obtain ⟨R', h, hh, Hs⟩ := I.1
  have e9 := G.h9 Hs
  unfold C_cold M_cold
  refine w2P (hasRoom_P H.rm) (isRoom_P G.r h6) (fun _ => w2s rfl) (fun c0 => ?_)
  obtain ⟨j, hj, rfl⟩ := room_j h6 c0
  refine w2P within_eq (inP (by decide) (by decide)) (fun _ => w2s rfl) (fun c1 => ?_)
  rw [cpNow_eq, copies_eq (by decide) (by decide) (by omega)]
  exact w2sl (w2sr (K_cold hj 61 0 FU FU _ _ h G.cp53 ((cpM_ne (Or.inl (by decide))).trans G.r) e9 (by omega) (by decide) (by decide) (by decide)))
end RUNS
