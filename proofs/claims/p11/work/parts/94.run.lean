/-! a run of the law, out of a relation that every call keeps -/
def stepOK_0 (R : sg → sg → Prop) (s t : sg) (x1 : Int32) : Prop := ∃ (u w : Int32) (s' : sg) (t' : sg), C_feed x1 s = some (u, s') ∧ M_feed x1 t = some (w, t') ∧ R s' t'
def stepOK_1 (R : sg → sg → Prop) (s t : sg) (x1 : Int32) : Prop := ∃ (u w : Int32) (s' : sg) (t' : sg), C_end x1 s = some (u, s') ∧ M_end x1 t = some (w, t') ∧ R s' t'
def stepOK_2 (R : sg → sg → Prop) (s t : sg) : Prop := ∃ (u w : Int32) (s' : sg) (t' : sg), C_text s = some (u, s') ∧ M_text t = some (w, t') ∧ R s' t'
def stepOK_3 (R : sg → sg → Prop) (s t : sg) : Prop := ∃ (u w : Int32), C_fault s = some u ∧ M_fault t = some w ∧ R s t
def stepOK_4 (R : sg → sg → Prop) (s t : sg) (x1 : Int32) : Prop := ∃ (u w : Int32), C_rule x1 s = some u ∧ M_rule x1 t = some w ∧ R s t
def stepOK_5 (R : sg → sg → Prop) (s t : sg) (x1 : Int32) (x2 : Int32) : Prop := ∃ (u w : Int32), C_room x1 x2 s = some u ∧ M_room x1 x2 t = some w ∧ R s t
def stepOK_6 (R : sg → sg → Prop) (s t : sg) (x1 : Int32) : Prop := ∃ (u w : Int32), C_wall x1 s = some u ∧ M_wall x1 t = some w ∧ R s t
def stepOK_7 (R : sg → sg → Prop) (s t : sg) (x1 : Int32) : Prop := ∃ (u w : Int32), C_outside x1 s = some u ∧ M_outside x1 t = some w ∧ R s t
def stepOK_8 (R : sg → sg → Prop) (s t : sg) (x1 : Int32) (x2 : Int32) (x3 : Int32) : Prop := ∃ (u w : Int32) (s' : sg) (t' : sg), C_alter x1 x2 x3 s = some (u, s') ∧ M_alter x1 x2 x3 t = some (w, t') ∧ R s' t'
def stepOK_9 (R : sg → sg → Prop) (s t : sg) (x1 : Int32) (x2 : Int32) (x3 : Int32) : Prop := ∃ (u : Int32) (s' : sg) (t' : sg), C_fit x1 x2 x3 s = some (u, s') ∧ M_fit x1 x2 x3 t = some (u, t') ∧ R s' t'
def stepOK_10 (R : sg → sg → Prop) (s t : sg) (x1 : Int32) : Prop := ∃ (u w : Int32) (s' : sg) (t' : sg), C_strip x1 s = some (u, s') ∧ M_strip x1 t = some (w, t') ∧ R s' t'
def stepOK_11 (R : sg → sg → Prop) (s t : sg) (x1 : Int32) (x2 : Int32) : Prop := ∃ (u w : Int32) (s' : sg) (t' : sg), C_mark x1 x2 s = some (u, s') ∧ M_mark x1 x2 t = some (w, t') ∧ R s' t'
def stepOK_12 (R : sg → sg → Prop) (s t : sg) (x1 : Int32) (x2 : Int32) : Prop := ∃ (u w : Int32) (s' : sg) (t' : sg), C_lag x1 x2 s = some (u, s') ∧ M_lag x1 x2 t = some (w, t') ∧ R s' t'
def stepOK_13 (R : sg → sg → Prop) (s t : sg) (x1 : Int32) (x2 : Int32) : Prop := ∃ (u w : Int32) (s' : sg) (t' : sg), C_sky x1 x2 s = some (u, s') ∧ M_sky x1 x2 t = some (w, t') ∧ R s' t'
def stepOK_14 (R : sg → sg → Prop) (s t : sg) (x1 : Int32) : Prop := ∃ (u w : Int32) (s' : sg) (t' : sg), C_hours x1 s = some (u, s') ∧ M_hours x1 t = some (w, t') ∧ R s' t'
def stepOK_15 (R : sg → sg → Prop) (s t : sg) (x1 : Int32) (x2 : Int32) : Prop := ∃ (u w : Int32) (s' : sg) (t' : sg), C_runs x1 x2 s = some (u, s') ∧ M_runs x1 x2 t = some (w, t') ∧ R s' t'
def stepOK_16 (R : sg → sg → Prop) (s t : sg) (x1 : Int32) (x2 : Int32) (x3 : Int32) : Prop := ∃ (u w : Int32) (s' : sg) (t' : sg), C_ahead x1 x2 x3 s = some (u, s') ∧ M_ahead x1 x2 x3 t = some (w, t') ∧ R s' t'
def stepOK_17 (R : sg → sg → Prop) (s t : sg) (x1 : Int32) (x2 : Int32) : Prop := ∃ (u w : Int32) (s' : sg) (t' : sg), C_cold x1 x2 s = some (u, s') ∧ M_cold x1 x2 t = some (w, t') ∧ R s' t'
def stepOK_18 (R : sg → sg → Prop) (s t : sg) : Prop := ∃ (u w : Int32) (s' : sg) (t' : sg), C_again s = some (u, s') ∧ M_again t = some (w, t') ∧ R s' t'
def stepOK_19 (R : sg → sg → Prop) (s t : sg) (x1 : Int32) (x2 : Int32) (x3 : Int32) : Prop := ∃ (u w : Int32) (s' : sg) (t' : sg), C_need x1 x2 x3 s = some (u, s') ∧ M_need x1 x2 x3 t = some (w, t') ∧ R s' t'
def stepOK_20 (R : sg → sg → Prop) (s t : sg) (x1 : Int32) (x2 : Int32) (x3 : Int32) : Prop := ∃ (u w : Int32) (s' : sg) (t' : sg), C_kind x1 x2 x3 s = some (u, s') ∧ M_kind x1 x2 x3 t = some (w, t') ∧ R s' t'
def stepOK_21 (R : sg → sg → Prop) (s t : sg) (x1 : Int32) (x2 : Int32) : Prop := ∃ (u w : Int32) (s' : sg) (t' : sg), C_swap x1 x2 s = some (u, s') ∧ M_swap x1 x2 t = some (w, t') ∧ R s' t'
def stepOK_22 (R : sg → sg → Prop) (s t : sg) (x1 : Int32) (x2 : Int32) : Prop := ∃ (u w : Int32) (s' : sg) (t' : sg), C_seal x1 x2 s = some (u, s') ∧ M_seal x1 x2 t = some (w, t') ∧ R s' t'
def stepOK_23 (R : sg → sg → Prop) (s t : sg) (x1 : Int32) (x2 : Int32) (x3 : Int32) : Prop := ∃ (u w : Int32) (s' : sg) (t' : sg), C_spare x1 x2 x3 s = some (u, s') ∧ M_spare x1 x2 x3 t = some (w, t') ∧ R s' t'
def stepOK_24 (R : sg → sg → Prop) (s t : sg) (x1 : Int32) (x2 : Int32) (x3 : Int32) (x4 : Int32) (x5 : Int32) : Prop := ∃ (u w : Int64) (s' : sg) (t' : sg), C_luck x1 x2 x3 x4 x5 s = some (u, s') ∧ M_luck x1 x2 x3 x4 x5 t = some (w, t') ∧ R s' t'
def stepOK_25 (R : sg → sg → Prop) (s t : sg) (x1 : Int32) (x2 : Int32) (x3 : Int32) : Prop := ∃ (u w : Int64) (s' : sg) (t' : sg), C_mean x1 x2 x3 s = some (u, s') ∧ M_mean x1 x2 x3 t = some (w, t') ∧ R s' t'
def stepOK_26 (R : sg → sg → Prop) (s t : sg) (x1 : Int32) (x2 : Int32) (x3 : Int32) : Prop := ∃ (u w : Int32) (s' : sg) (t' : sg), C_see x1 x2 x3 s = some (u, s') ∧ M_see x1 x2 x3 t = some (w, t') ∧ R s' t'
def stepOK_27 (R : sg → sg → Prop) (s t : sg) (x1 : Int32) : Prop := ∃ (u w : Int32) (s' : sg) (t' : sg), C_forget x1 s = some (u, s') ∧ M_forget x1 t = some (w, t') ∧ R s' t'
def stepOK_28 (R : sg → sg → Prop) (s t : sg) (x1 : Int32) : Prop := ∃ (u w : Int32) (s' : sg) (t' : sg), C_kinds x1 s = some (u, s') ∧ M_kinds x1 t = some (w, t') ∧ R s' t'
def stepOK_29 (R : sg → sg → Prop) (s t : sg) (x1 : Int32) : Prop := ∃ (u w : Int32) (s' : sg) (t' : sg), C_lets x1 s = some (u, s') ∧ M_lets x1 t = some (w, t') ∧ R s' t'
def stepOK_30 (R : sg → sg → Prop) (s t : sg) (x1 : Int32) (x2 : Int32) : Prop := ∃ (u w : Int32) (s' : sg) (t' : sg), C_ask x1 x2 s = some (u, s') ∧ M_ask x1 x2 t = some (w, t') ∧ R s' t'
def stepOK_31 (R : sg → sg → Prop) (s t : sg) (x1 : Int32) (x2 : Int32) (x3 : Int32) : Prop := ∃ (u w : Int32) (s' : sg) (t' : sg), C_drift x1 x2 x3 s = some (u, s') ∧ M_drift x1 x2 x3 t = some (w, t') ∧ R s' t'
def stepOK_32 (R : sg → sg → Prop) (s t : sg) (x1 : Int32) : Prop := ∃ (u w : Int32) (s' : sg) (t' : sg), C_keep x1 s = some (u, s') ∧ M_keep x1 t = some (w, t') ∧ R s' t'
def stepOK_33 (R : sg → sg → Prop) (s t : sg) (x1 : Int32) : Prop := ∃ (u w : Int32) (s' : sg) (t' : sg), C_back x1 s = some (u, s') ∧ M_back x1 t = some (w, t') ∧ R s' t'
def stepOK_34 (R : sg → sg → Prop) (s t : sg) (x1 : Int32) (x2 : Int32) (x3 : Int32) : Prop := ∃ (u w : Int32) (s' : sg) (t' : sg), C_sheet x1 x2 x3 s = some (u, s') ∧ M_sheet x1 x2 x3 t = some (w, t') ∧ R s' t'
def stepOK_35 (R : sg → sg → Prop) (s t : sg) (x1 : Int32) (x2 : Int32) (x3 : Int32) : Prop := ∃ (u w : Int32) (s' : sg) (t' : sg), C_lay x1 x2 x3 s = some (u, s') ∧ M_lay x1 x2 x3 t = some (w, t') ∧ R s' t'
def stepOK_36 (R : sg → sg → Prop) (s t : sg) (x1 : Int32) (x2 : Int32) (x3 : Int32) (x4 : Int32) : Prop := ∃ (u w : Int32) (s' : sg) (t' : sg), C_read x1 x2 x3 x4 s = some (u, s') ∧ M_read x1 x2 x3 x4 t = some (w, t') ∧ R s' t'
def stepOK_37 (R : sg → sg → Prop) (s t : sg) : Prop := ∃ (u w : Int32), C_torn s = some u ∧ M_torn t = some w ∧ R s t
def stepOK_38 (R : sg → sg → Prop) (s t : sg) (x1 : Int32) : Prop := ∃ (u w : Int32), C_count x1 s = some u ∧ M_count x1 t = some w ∧ R s t
def stepsOK (R : sg → sg → Prop) : Prop := ∀ (s t : sg), R s t → ∀ (x1 x2 x3 x4 x5 : Int32), stepOK_0 R s t x1 ∧ stepOK_1 R s t x1 ∧ stepOK_2 R s t ∧ stepOK_3 R s t ∧ stepOK_4 R s t x1 ∧ stepOK_5 R s t x1 x2 ∧ stepOK_6 R s t x1 ∧ stepOK_7 R s t x1 ∧ stepOK_8 R s t x1 x2 x3 ∧ stepOK_9 R s t x1 x2 x3 ∧ stepOK_10 R s t x1 ∧ stepOK_11 R s t x1 x2 ∧ stepOK_12 R s t x1 x2 ∧ stepOK_13 R s t x1 x2 ∧ stepOK_14 R s t x1 ∧ stepOK_15 R s t x1 x2 ∧ stepOK_16 R s t x1 x2 x3 ∧ stepOK_17 R s t x1 x2 ∧ stepOK_18 R s t ∧ stepOK_19 R s t x1 x2 x3 ∧ stepOK_20 R s t x1 x2 x3 ∧ stepOK_21 R s t x1 x2 ∧ stepOK_22 R s t x1 x2 ∧ stepOK_23 R s t x1 x2 x3 ∧ stepOK_24 R s t x1 x2 x3 x4 x5 ∧ stepOK_25 R s t x1 x2 x3 ∧ stepOK_26 R s t x1 x2 x3 ∧ stepOK_27 R s t x1 ∧ stepOK_28 R s t x1 ∧ stepOK_29 R s t x1 ∧ stepOK_30 R s t x1 x2 ∧ stepOK_31 R s t x1 x2 x3 ∧ stepOK_32 R s t x1 ∧ stepOK_33 R s t x1 ∧ stepOK_34 R s t x1 x2 x3 ∧ stepOK_35 R s t x1 x2 x3 ∧ stepOK_36 R s t x1 x2 x3 x4 ∧ stepOK_37 R s t ∧ stepOK_38 R s t x1
theorem rE_sC (x : mE) : rE sC x = x := by
  obtain a | ⟨c, vs⟩ := x
  · rfl
  · show Sum.inr (c, vs.map (cV sC)) = _
    rw [map_sC]
theorem hp_len (sh : List sD) (s : sg) : (hp sh s).length = sh.length := by rw [hp, List.length_mapIdx]
theorem LR0 : LR (hp shC s0) (hp shM t0) (hp shC s0 ++ hMt) := by
  have l1 : (hp shC s0).length = 141 := hp_len _ _
  have l2 : (hp shM t0).length = 23 := hp_len _ _
  have d0 : ∀ i, i < 10 → (hp shM t0)[i]? = some (.inl (0, [])) ∧ (hp shC s0)[i]? = some (.inl (0, [])) := fun i hi => by
    match i, hi with
    | 0, _ => exact ⟨(hp_get rfl).trans rfl, (hp_get rfl).trans rfl⟩
    | 1, _ => exact ⟨(hp_get rfl).trans rfl, (hp_get rfl).trans rfl⟩
    | 2, _ => exact ⟨(hp_get rfl).trans rfl, (hp_get rfl).trans rfl⟩
    | 3, _ => exact ⟨(hp_get rfl).trans rfl, (hp_get rfl).trans rfl⟩
    | 4, _ => exact ⟨(hp_get rfl).trans rfl, (hp_get rfl).trans rfl⟩
    | 5, _ => exact ⟨(hp_get rfl).trans rfl, (hp_get rfl).trans rfl⟩
    | 6, _ => exact ⟨(hp_get rfl).trans rfl, (hp_get rfl).trans rfl⟩
    | 7, _ => exact ⟨(hp_get rfl).trans rfl, (hp_get rfl).trans rfl⟩
    | 8, _ => exact ⟨(hp_get rfl).trans rfl, (hp_get rfl).trans rfl⟩
    | 9, _ => exact ⟨(hp_get rfl).trans rfl, (hp_get rfl).trans rfl⟩
  have e1 : ∀ i, i < 10 → sM i = i := fun i hi => if_pos hi
  have e2 : ∀ i, 10 ≤ i → sM i = i + 131 := fun i hi => if_neg (by omega)
  refine ⟨⟨fun i x h => ?_, fun i j _ _ h => h, fun i h => h, fun i _ => rfl⟩, ⟨fun i x h => ?_, fun i j _ _ h => ?_, fun i h => ?_, fun i h => e1 i h⟩, l1, l2⟩
  · have hi := (List.getElem?_eq_some_iff.mp h).1
    rw [rE_sC]
    show (hp shC s0 ++ hMt)[i]? = some x
    rw [List.getElem?_append_left hi]; exact h
  · by_cases q : i < 10
    · rw [e1 i q, List.getElem?_append_left (by rw [l1]; omega), (d0 i q).2]
      rw [(d0 i q).1] at h
      cases h; rfl
    · rw [e2 i (by omega), List.getElem?_append_right (by rw [l1]; omega), l1, show i + 131 - 141 = i - 10 by omega, hMt, List.getElem?_map, List.getElem?_drop, show 10 + (i - 10) = i by omega, h]
      rfl
  · by_cases q : i < 10
    · by_cases q2 : j < 10
      · rw [e1 i q, e1 j q2] at h; exact h
      · rw [e1 i q, e2 j (by omega)] at h; omega
    · by_cases q2 : j < 10
      · rw [e2 i (by omega), e1 j q2] at h; omega
      · rw [e2 i (by omega), e2 j (by omega)] at h; omega
  · have h : 10 ≤ i := h
    rw [e2 i h]; show 10 ≤ i + 131; omega
theorem hpC10 (s : sg) : (hp shC s)[10]? = some (he s 10 (.inr (4, [some 11, some 19, some 20, some 21, some 22, some 23, some 27, none]))) := hp_get rfl
theorem hpM10 (s : sg) : (hp shM s)[10]? = some (he s 10 (.inr (5, [some 11, none, some 12, none, none, none, none, some 13, none, none, none, none, none, none, none, none, some 14, some 15, some 16, none, none, some 17, none, some 18, some 19, some 20, some 21, some 22, none]))) := hp_get rfl

section DO
variable {R : sg → sg → Prop} {sc : List Int32} {s t : sg} {HS : mH} {nc ns i : Nat}
set_option maxRecDepth 100000 in
theorem law_do_0 (hL31 : sc.length < 2 ^ 31) (hi : i + 6 ≤ sc.length) (hLR : LR (hp shC s) (hp shM t) HS) (k : stepOK_0 R s t (sc.getD (i + 1) 0)) (fin : ∀ (s' t' : sg) (HS' : mH), R s' t' → LR (hp shC s') (hp shM t') HS' → mFin sc 31 nc ns (1441, lawL i, [], HS', nc, ns)) : mFin sc 31 nc ns (33, lawL i, [.int (nI 0)], HS, nc, ns) := by
  obtain ⟨u, w, s', t', A, B, hR'⟩ := k
  have hA := ((ok_C_feed A).le (by decide : 1 ≤ 30)).sc sc (by decide)
  have hB := ((ok_M_feed B).le (by decide : 1 ≤ 30)).sc sc (by decide)
  exact law_sw (by decide) rfl (t := 204) (by decide) (law_case_0 hL31 hi hLR (hpC10 s) (hpM10 t) hA hB (fun HS' hLR' => fin s' t' HS' hR' hLR'))
set_option maxRecDepth 100000 in
theorem law_do_1 (hL31 : sc.length < 2 ^ 31) (hi : i + 6 ≤ sc.length) (hLR : LR (hp shC s) (hp shM t) HS) (k : stepOK_1 R s t (sc.getD (i + 1) 0)) (fin : ∀ (s' t' : sg) (HS' : mH), R s' t' → LR (hp shC s') (hp shM t') HS' → mFin sc 31 nc ns (1441, lawL i, [], HS', nc, ns)) : mFin sc 31 nc ns (33, lawL i, [.int (nI 1)], HS, nc, ns) := by
  obtain ⟨u, w, s', t', A, B, hR'⟩ := k
  have hA := ((ok_C_end A).le (by decide : 1 ≤ 30)).sc sc (by decide)
  have hB := ((ok_M_end B).le (by decide : 1 ≤ 30)).sc sc (by decide)
  exact law_sw (by decide) rfl (t := 227) (by decide) (law_case_1 hL31 hi hLR (hpC10 s) (hpM10 t) hA hB (fun HS' hLR' => fin s' t' HS' hR' hLR'))
set_option maxRecDepth 100000 in
theorem law_do_2 (hL31 : sc.length < 2 ^ 31) (hi : i + 6 ≤ sc.length) (hLR : LR (hp shC s) (hp shM t) HS) (k : stepOK_2 R s t) (fin : ∀ (s' t' : sg) (HS' : mH), R s' t' → LR (hp shC s') (hp shM t') HS' → mFin sc 31 nc ns (1441, lawL i, [], HS', nc, ns)) : mFin sc 31 nc ns (33, lawL i, [.int (nI 2)], HS, nc, ns) := by
  obtain ⟨u, w, s', t', A, B, hR'⟩ := k
  have hA := ((ok_C_text A).le (by decide : 6 ≤ 30)).sc sc (by decide)
  have hB := ((ok_M_text B).le (by decide : 6 ≤ 30)).sc sc (by decide)
  exact law_sw (by decide) rfl (t := 250) (by decide) (law_case_2 hL31 hi hLR (hpC10 s) (hpM10 t) hA hB (fun HS' hLR' => fin s' t' HS' hR' hLR'))
set_option maxRecDepth 100000 in
theorem law_do_3 (hL31 : sc.length < 2 ^ 31) (hi : i + 6 ≤ sc.length) (hLR : LR (hp shC s) (hp shM t) HS) (k : stepOK_3 R s t) (fin : ∀ (s' t' : sg) (HS' : mH), R s' t' → LR (hp shC s') (hp shM t') HS' → mFin sc 31 nc ns (1441, lawL i, [], HS', nc, ns)) : mFin sc 31 nc ns (33, lawL i, [.int (nI 3)], HS, nc, ns) := by
  obtain ⟨u, w, A, B, hR'⟩ := k
  have hA := ((ok_C_fault A).le (by decide : 0 ≤ 30)).sc sc (by decide)
  have hB := ((ok_M_fault B).le (by decide : 0 ≤ 30)).sc sc (by decide)
  exact law_sw (by decide) rfl (t := 263) (by decide) (law_case_3 hL31 hi hLR (hpC10 s) (hpM10 t) hA hB (fun HS' hLR' => fin s t HS' hR' hLR'))
set_option maxRecDepth 100000 in
theorem law_do_4 (hL31 : sc.length < 2 ^ 31) (hi : i + 6 ≤ sc.length) (hLR : LR (hp shC s) (hp shM t) HS) (k : stepOK_4 R s t (sc.getD (i + 1) 0)) (fin : ∀ (s' t' : sg) (HS' : mH), R s' t' → LR (hp shC s') (hp shM t') HS' → mFin sc 31 nc ns (1441, lawL i, [], HS', nc, ns)) : mFin sc 31 nc ns (33, lawL i, [.int (nI 4)], HS, nc, ns) := by
  obtain ⟨u, w, A, B, hR'⟩ := k
  have hA := ((ok_C_rule A).le (by decide : 2 ≤ 30)).sc sc (by decide)
  have hB := ((ok_M_rule B).le (by decide : 1 ≤ 30)).sc sc (by decide)
  exact law_sw (by decide) rfl (t := 276) (by decide) (law_case_4 hL31 hi hLR (hpC10 s) (hpM10 t) hA hB (fun HS' hLR' => fin s t HS' hR' hLR'))
set_option maxRecDepth 100000 in
theorem law_do_5 (hL31 : sc.length < 2 ^ 31) (hi : i + 6 ≤ sc.length) (hLR : LR (hp shC s) (hp shM t) HS) (k : stepOK_5 R s t (sc.getD (i + 1) 0) (sc.getD (i + 2) 0)) (fin : ∀ (s' t' : sg) (HS' : mH), R s' t' → LR (hp shC s') (hp shM t') HS' → mFin sc 31 nc ns (1441, lawL i, [], HS', nc, ns)) : mFin sc 31 nc ns (33, lawL i, [.int (nI 5)], HS, nc, ns) := by
  obtain ⟨u, w, A, B, hR'⟩ := k
  have hA := ((ok_C_room A).le (by decide : 2 ≤ 30)).sc sc (by decide)
  have hB := ((ok_M_room B).le (by decide : 2 ≤ 30)).sc sc (by decide)
  exact law_sw (by decide) rfl (t := 299) (by decide) (law_case_5 hL31 hi hLR (hpC10 s) (hpM10 t) hA hB (fun HS' hLR' => fin s t HS' hR' hLR'))
set_option maxRecDepth 100000 in
theorem law_do_6 (hL31 : sc.length < 2 ^ 31) (hi : i + 6 ≤ sc.length) (hLR : LR (hp shC s) (hp shM t) HS) (k : stepOK_6 R s t (sc.getD (i + 1) 0)) (fin : ∀ (s' t' : sg) (HS' : mH), R s' t' → LR (hp shC s') (hp shM t') HS' → mFin sc 31 nc ns (1441, lawL i, [], HS', nc, ns)) : mFin sc 31 nc ns (33, lawL i, [.int (nI 6)], HS, nc, ns) := by
  obtain ⟨u, w, A, B, hR'⟩ := k
  have hA := ((ok_C_wall A).le (by decide : 1 ≤ 30)).sc sc (by decide)
  have hB := ((ok_M_wall B).le (by decide : 2 ≤ 30)).sc sc (by decide)
  exact law_sw (by decide) rfl (t := 332) (by decide) (law_case_6 hL31 hi hLR (hpC10 s) (hpM10 t) hA hB (fun HS' hLR' => fin s t HS' hR' hLR'))
set_option maxRecDepth 100000 in
theorem law_do_7 (hL31 : sc.length < 2 ^ 31) (hi : i + 6 ≤ sc.length) (hLR : LR (hp shC s) (hp shM t) HS) (k : stepOK_7 R s t (sc.getD (i + 1) 0)) (fin : ∀ (s' t' : sg) (HS' : mH), R s' t' → LR (hp shC s') (hp shM t') HS' → mFin sc 31 nc ns (1441, lawL i, [], HS', nc, ns)) : mFin sc 31 nc ns (33, lawL i, [.int (nI 7)], HS, nc, ns) := by
  obtain ⟨u, w, A, B, hR'⟩ := k
  have hA := ((ok_C_outside A).le (by decide : 1 ≤ 30)).sc sc (by decide)
  have hB := ((ok_M_outside B).le (by decide : 1 ≤ 30)).sc sc (by decide)
  exact law_sw (by decide) rfl (t := 355) (by decide) (law_case_7 hL31 hi hLR (hpC10 s) (hpM10 t) hA hB (fun HS' hLR' => fin s t HS' hR' hLR'))
set_option maxRecDepth 100000 in
theorem law_do_8 (hL31 : sc.length < 2 ^ 31) (hi : i + 6 ≤ sc.length) (hLR : LR (hp shC s) (hp shM t) HS) (k : stepOK_8 R s t (sc.getD (i + 1) 0) (sc.getD (i + 2) 0) (sc.getD (i + 3) 0)) (fin : ∀ (s' t' : sg) (HS' : mH), R s' t' → LR (hp shC s') (hp shM t') HS' → mFin sc 31 nc ns (1441, lawL i, [], HS', nc, ns)) : mFin sc 31 nc ns (33, lawL i, [.int (nI 8)], HS, nc, ns) := by
  obtain ⟨u, w, s', t', A, B, hR'⟩ := k
  have hA := ((ok_C_alter A).le (by decide : 1 ≤ 30)).sc sc (by decide)
  have hB := ((ok_M_alter B).le (by decide : 2 ≤ 30)).sc sc (by decide)
  exact law_sw (by decide) rfl (t := 378) (by decide) (law_case_8 hL31 hi hLR (hpC10 s) (hpM10 t) hA hB (fun HS' hLR' => fin s' t' HS' hR' hLR'))
set_option maxRecDepth 100000 in
theorem law_do_9 (hL31 : sc.length < 2 ^ 31) (hi : i + 6 ≤ sc.length) (hLR : LR (hp shC s) (hp shM t) HS) (k : stepOK_9 R s t (sc.getD (i + 1) 0) (sc.getD (i + 2) 0) (sc.getD (i + 3) 0)) (fin : ∀ (s' t' : sg) (HS' : mH), R s' t' → LR (hp shC s') (hp shM t') HS' → mFin sc 31 nc ns (1441, lawL i, [], HS', nc, ns)) : mFin sc 31 nc ns (33, lawL i, [.int (nI 9)], HS, nc, ns) := by
  obtain ⟨u, s', t', A, B, hR'⟩ := k
  have hA := ((ok_C_fit A).le (by decide : 1 ≤ 30)).sc sc (by decide)
  have hB := ((ok_M_fit B).le (by decide : 2 ≤ 30)).sc sc (by decide)
  exact law_sw (by decide) rfl (t := 421) (by decide) (law_case_9 hL31 hi hLR (hpC10 s) (hpM10 t) hA hB (fun HS' hLR' => fin s' t' HS' hR' hLR'))
set_option maxRecDepth 100000 in
theorem law_do_10 (hL31 : sc.length < 2 ^ 31) (hi : i + 6 ≤ sc.length) (hLR : LR (hp shC s) (hp shM t) HS) (k : stepOK_10 R s t (sc.getD (i + 1) 0)) (fin : ∀ (s' t' : sg) (HS' : mH), R s' t' → LR (hp shC s') (hp shM t') HS' → mFin sc 31 nc ns (1441, lawL i, [], HS', nc, ns)) : mFin sc 31 nc ns (33, lawL i, [.int (nI 10)], HS, nc, ns) := by
  obtain ⟨u, w, s', t', A, B, hR'⟩ := k
  have hA := ((ok_C_strip A).le (by decide : 1 ≤ 30)).sc sc (by decide)
  have hB := ((ok_M_strip B).le (by decide : 2 ≤ 30)).sc sc (by decide)
  exact law_sw (by decide) rfl (t := 464) (by decide) (law_case_10 hL31 hi hLR (hpC10 s) (hpM10 t) hA hB (fun HS' hLR' => fin s' t' HS' hR' hLR'))
set_option maxRecDepth 100000 in
theorem law_do_11 (hL31 : sc.length < 2 ^ 31) (hi : i + 6 ≤ sc.length) (hLR : LR (hp shC s) (hp shM t) HS) (k : stepOK_11 R s t (sc.getD (i + 1) 0) (sc.getD (i + 2) 0)) (fin : ∀ (s' t' : sg) (HS' : mH), R s' t' → LR (hp shC s') (hp shM t') HS' → mFin sc 31 nc ns (1441, lawL i, [], HS', nc, ns)) : mFin sc 31 nc ns (33, lawL i, [.int (nI 11)], HS, nc, ns) := by
  obtain ⟨u, w, s', t', A, B, hR'⟩ := k
  have hA := ((ok_C_mark A).le (by decide : 2 ≤ 30)).sc sc (by decide)
  have hB := ((ok_M_mark B).le (by decide : 3 ≤ 30)).sc sc (by decide)
  exact law_sw (by decide) rfl (t := 487) (by decide) (law_case_11 hL31 hi hLR (hpC10 s) (hpM10 t) hA hB (fun HS' hLR' => fin s' t' HS' hR' hLR'))
set_option maxRecDepth 100000 in
theorem law_do_12 (hL31 : sc.length < 2 ^ 31) (hi : i + 6 ≤ sc.length) (hLR : LR (hp shC s) (hp shM t) HS) (k : stepOK_12 R s t (sc.getD (i + 1) 0) (sc.getD (i + 2) 0)) (fin : ∀ (s' t' : sg) (HS' : mH), R s' t' → LR (hp shC s') (hp shM t') HS' → mFin sc 31 nc ns (1441, lawL i, [], HS', nc, ns)) : mFin sc 31 nc ns (33, lawL i, [.int (nI 12)], HS, nc, ns) := by
  obtain ⟨u, w, s', t', A, B, hR'⟩ := k
  have hA := ((ok_C_lag A).le (by decide : 1 ≤ 30)).sc sc (by decide)
  have hB := ((ok_M_lag B).le (by decide : 2 ≤ 30)).sc sc (by decide)
  exact law_sw (by decide) rfl (t := 520) (by decide) (law_case_12 hL31 hi hLR (hpC10 s) (hpM10 t) hA hB (fun HS' hLR' => fin s' t' HS' hR' hLR'))
set_option maxRecDepth 100000 in
theorem law_do_13 (hL31 : sc.length < 2 ^ 31) (hi : i + 6 ≤ sc.length) (hLR : LR (hp shC s) (hp shM t) HS) (k : stepOK_13 R s t (sc.getD (i + 1) 0) (sc.getD (i + 2) 0)) (fin : ∀ (s' t' : sg) (HS' : mH), R s' t' → LR (hp shC s') (hp shM t') HS' → mFin sc 31 nc ns (1441, lawL i, [], HS', nc, ns)) : mFin sc 31 nc ns (33, lawL i, [.int (nI 13)], HS, nc, ns) := by
  obtain ⟨u, w, s', t', A, B, hR'⟩ := k
  have hA := ((ok_C_sky A).le (by decide : 1 ≤ 30)).sc sc (by decide)
  have hB := ((ok_M_sky B).le (by decide : 1 ≤ 30)).sc sc (by decide)
  exact law_sw (by decide) rfl (t := 553) (by decide) (law_case_13 hL31 hi hLR (hpC10 s) (hpM10 t) hA hB (fun HS' hLR' => fin s' t' HS' hR' hLR'))
set_option maxRecDepth 100000 in
theorem law_do_14 (hL31 : sc.length < 2 ^ 31) (hi : i + 6 ≤ sc.length) (hLR : LR (hp shC s) (hp shM t) HS) (k : stepOK_14 R s t (sc.getD (i + 1) 0)) (fin : ∀ (s' t' : sg) (HS' : mH), R s' t' → LR (hp shC s') (hp shM t') HS' → mFin sc 31 nc ns (1441, lawL i, [], HS', nc, ns)) : mFin sc 31 nc ns (33, lawL i, [.int (nI 14)], HS, nc, ns) := by
  obtain ⟨u, w, s', t', A, B, hR'⟩ := k
  have hA := ((ok_C_hours A).le (by decide : 5 ≤ 30)).sc sc (by decide)
  have hB := ((ok_M_hours B).le (by decide : 4 ≤ 30)).sc sc (by decide)
  exact law_sw (by decide) rfl (t := 586) (by decide) (law_case_14 hL31 hi hLR (hpC10 s) (hpM10 t) hA hB (fun HS' hLR' => fin s' t' HS' hR' hLR'))
set_option maxRecDepth 100000 in
theorem law_do_15 (hL31 : sc.length < 2 ^ 31) (hi : i + 6 ≤ sc.length) (hLR : LR (hp shC s) (hp shM t) HS) (k : stepOK_15 R s t (sc.getD (i + 1) 0) (sc.getD (i + 2) 0)) (fin : ∀ (s' t' : sg) (HS' : mH), R s' t' → LR (hp shC s') (hp shM t') HS' → mFin sc 31 nc ns (1441, lawL i, [], HS', nc, ns)) : mFin sc 31 nc ns (33, lawL i, [.int (nI 15)], HS, nc, ns) := by
  obtain ⟨u, w, s', t', A, B, hR'⟩ := k
  have hA := ((ok_C_runs A).le (by decide : 5 ≤ 30)).sc sc (by decide)
  have hB := ((ok_M_runs B).le (by decide : 5 ≤ 30)).sc sc (by decide)
  exact law_sw (by decide) rfl (t := 609) (by decide) (law_case_15 hL31 hi hLR (hpC10 s) (hpM10 t) hA hB (fun HS' hLR' => fin s' t' HS' hR' hLR'))
set_option maxRecDepth 100000 in
theorem law_do_16 (hL31 : sc.length < 2 ^ 31) (hi : i + 6 ≤ sc.length) (hLR : LR (hp shC s) (hp shM t) HS) (k : stepOK_16 R s t (sc.getD (i + 1) 0) (sc.getD (i + 2) 0) (sc.getD (i + 3) 0)) (fin : ∀ (s' t' : sg) (HS' : mH), R s' t' → LR (hp shC s') (hp shM t') HS' → mFin sc 31 nc ns (1441, lawL i, [], HS', nc, ns)) : mFin sc 31 nc ns (33, lawL i, [.int (nI 16)], HS, nc, ns) := by
  obtain ⟨u, w, s', t', A, B, hR'⟩ := k
  have hA := ((ok_C_ahead A).le (by decide : 5 ≤ 30)).sc sc (by decide)
  have hB := ((ok_M_ahead B).le (by decide : 5 ≤ 30)).sc sc (by decide)
  exact law_sw (by decide) rfl (t := 642) (by decide) (law_case_16 hL31 hi hLR (hpC10 s) (hpM10 t) hA hB (fun HS' hLR' => fin s' t' HS' hR' hLR'))
set_option maxRecDepth 100000 in
theorem law_do_17 (hL31 : sc.length < 2 ^ 31) (hi : i + 6 ≤ sc.length) (hLR : LR (hp shC s) (hp shM t) HS) (k : stepOK_17 R s t (sc.getD (i + 1) 0) (sc.getD (i + 2) 0)) (fin : ∀ (s' t' : sg) (HS' : mH), R s' t' → LR (hp shC s') (hp shM t') HS' → mFin sc 31 nc ns (1441, lawL i, [], HS', nc, ns)) : mFin sc 31 nc ns (33, lawL i, [.int (nI 17)], HS, nc, ns) := by
  obtain ⟨u, w, s', t', A, B, hR'⟩ := k
  have hA := ((ok_C_cold A).le (by decide : 4 ≤ 30)).sc sc (by decide)
  have hB := ((ok_M_cold B).le (by decide : 4 ≤ 30)).sc sc (by decide)
  exact law_sw (by decide) rfl (t := 685) (by decide) (law_case_17 hL31 hi hLR (hpC10 s) (hpM10 t) hA hB (fun HS' hLR' => fin s' t' HS' hR' hLR'))
set_option maxRecDepth 100000 in
theorem law_do_18 (hL31 : sc.length < 2 ^ 31) (hi : i + 6 ≤ sc.length) (hLR : LR (hp shC s) (hp shM t) HS) (k : stepOK_18 R s t) (fin : ∀ (s' t' : sg) (HS' : mH), R s' t' → LR (hp shC s') (hp shM t') HS' → mFin sc 31 nc ns (1441, lawL i, [], HS', nc, ns)) : mFin sc 31 nc ns (33, lawL i, [.int (nI 18)], HS, nc, ns) := by
  obtain ⟨u, w, s', t', A, B, hR'⟩ := k
  have hA := ((ok_C_again A).le (by decide : 5 ≤ 30)).sc sc (by decide)
  have hB := ((ok_M_again B).le (by decide : 4 ≤ 30)).sc sc (by decide)
  exact law_sw (by decide) rfl (t := 718) (by decide) (law_case_18 hL31 hi hLR (hpC10 s) (hpM10 t) hA hB (fun HS' hLR' => fin s' t' HS' hR' hLR'))
set_option maxRecDepth 100000 in
theorem law_do_19 (hL31 : sc.length < 2 ^ 31) (hi : i + 6 ≤ sc.length) (hLR : LR (hp shC s) (hp shM t) HS) (k : stepOK_19 R s t (sc.getD (i + 1) 0) (sc.getD (i + 2) 0) (sc.getD (i + 3) 0)) (fin : ∀ (s' t' : sg) (HS' : mH), R s' t' → LR (hp shC s') (hp shM t') HS' → mFin sc 31 nc ns (1441, lawL i, [], HS', nc, ns)) : mFin sc 31 nc ns (33, lawL i, [.int (nI 19)], HS, nc, ns) := by
  obtain ⟨u, w, s', t', A, B, hR'⟩ := k
  have hA := ((ok_C_need A).le (by decide : 5 ≤ 30)).sc sc (by decide)
  have hB := ((ok_M_need B).le (by decide : 5 ≤ 30)).sc sc (by decide)
  exact law_sw (by decide) rfl (t := 731) (by decide) (law_case_19 hL31 hi hLR (hpC10 s) (hpM10 t) hA hB (fun HS' hLR' => fin s' t' HS' hR' hLR'))
set_option maxRecDepth 100000 in
theorem law_do_20 (hL31 : sc.length < 2 ^ 31) (hi : i + 6 ≤ sc.length) (hLR : LR (hp shC s) (hp shM t) HS) (k : stepOK_20 R s t (sc.getD (i + 1) 0) (sc.getD (i + 2) 0) (sc.getD (i + 3) 0)) (fin : ∀ (s' t' : sg) (HS' : mH), R s' t' → LR (hp shC s') (hp shM t') HS' → mFin sc 31 nc ns (1441, lawL i, [], HS', nc, ns)) : mFin sc 31 nc ns (33, lawL i, [.int (nI 20)], HS, nc, ns) := by
  obtain ⟨u, w, s', t', A, B, hR'⟩ := k
  have hA := ((ok_C_kind A).le (by decide : 5 ≤ 30)).sc sc (by decide)
  have hB := ((ok_M_kind B).le (by decide : 5 ≤ 30)).sc sc (by decide)
  exact law_sw (by decide) rfl (t := 774) (by decide) (law_case_20 hL31 hi hLR (hpC10 s) (hpM10 t) hA hB (fun HS' hLR' => fin s' t' HS' hR' hLR'))
set_option maxRecDepth 100000 in
theorem law_do_21 (hL31 : sc.length < 2 ^ 31) (hi : i + 6 ≤ sc.length) (hLR : LR (hp shC s) (hp shM t) HS) (k : stepOK_21 R s t (sc.getD (i + 1) 0) (sc.getD (i + 2) 0)) (fin : ∀ (s' t' : sg) (HS' : mH), R s' t' → LR (hp shC s') (hp shM t') HS' → mFin sc 31 nc ns (1441, lawL i, [], HS', nc, ns)) : mFin sc 31 nc ns (33, lawL i, [.int (nI 21)], HS, nc, ns) := by
  obtain ⟨u, w, s', t', A, B, hR'⟩ := k
  have hA := ((ok_C_swap A).le (by decide : 5 ≤ 30)).sc sc (by decide)
  have hB := ((ok_M_swap B).le (by decide : 5 ≤ 30)).sc sc (by decide)
  exact law_sw (by decide) rfl (t := 817) (by decide) (law_case_21 hL31 hi hLR (hpC10 s) (hpM10 t) hA hB (fun HS' hLR' => fin s' t' HS' hR' hLR'))
set_option maxRecDepth 100000 in
theorem law_do_22 (hL31 : sc.length < 2 ^ 31) (hi : i + 6 ≤ sc.length) (hLR : LR (hp shC s) (hp shM t) HS) (k : stepOK_22 R s t (sc.getD (i + 1) 0) (sc.getD (i + 2) 0)) (fin : ∀ (s' t' : sg) (HS' : mH), R s' t' → LR (hp shC s') (hp shM t') HS' → mFin sc 31 nc ns (1441, lawL i, [], HS', nc, ns)) : mFin sc 31 nc ns (33, lawL i, [.int (nI 22)], HS, nc, ns) := by
  obtain ⟨u, w, s', t', A, B, hR'⟩ := k
  have hA := ((ok_C_seal A).le (by decide : 5 ≤ 30)).sc sc (by decide)
  have hB := ((ok_M_seal B).le (by decide : 5 ≤ 30)).sc sc (by decide)
  exact law_sw (by decide) rfl (t := 850) (by decide) (law_case_22 hL31 hi hLR (hpC10 s) (hpM10 t) hA hB (fun HS' hLR' => fin s' t' HS' hR' hLR'))
set_option maxRecDepth 100000 in
theorem law_do_23 (hL31 : sc.length < 2 ^ 31) (hi : i + 6 ≤ sc.length) (hLR : LR (hp shC s) (hp shM t) HS) (k : stepOK_23 R s t (sc.getD (i + 1) 0) (sc.getD (i + 2) 0) (sc.getD (i + 3) 0)) (fin : ∀ (s' t' : sg) (HS' : mH), R s' t' → LR (hp shC s') (hp shM t') HS' → mFin sc 31 nc ns (1441, lawL i, [], HS', nc, ns)) : mFin sc 31 nc ns (33, lawL i, [.int (nI 23)], HS, nc, ns) := by
  obtain ⟨u, w, s', t', A, B, hR'⟩ := k
  have hA := ((ok_C_spare A).le (by decide : 5 ≤ 30)).sc sc (by decide)
  have hB := ((ok_M_spare B).le (by decide : 5 ≤ 30)).sc sc (by decide)
  exact law_sw (by decide) rfl (t := 883) (by decide) (law_case_23 hL31 hi hLR (hpC10 s) (hpM10 t) hA hB (fun HS' hLR' => fin s' t' HS' hR' hLR'))
set_option maxRecDepth 100000 in
theorem law_do_24 (hL31 : sc.length < 2 ^ 31) (hi : i + 6 ≤ sc.length) (hLR : LR (hp shC s) (hp shM t) HS) (k : stepOK_24 R s t (sc.getD (i + 1) 0) (sc.getD (i + 2) 0) (sc.getD (i + 3) 0) (sc.getD (i + 4) 0) (sc.getD (i + 5) 0)) (fin : ∀ (s' t' : sg) (HS' : mH), R s' t' → LR (hp shC s') (hp shM t') HS' → mFin sc 31 nc ns (1441, lawL i, [], HS', nc, ns)) : mFin sc 31 nc ns (33, lawL i, [.int (nI 24)], HS, nc, ns) := by
  obtain ⟨u, w, s', t', A, B, hR'⟩ := k
  have hA := ((ok_C_luck A).le (by decide : 14 ≤ 30)).sc sc (by decide)
  have hB := ((ok_M_luck B).le (by decide : 4 ≤ 30)).sc sc (by decide)
  exact law_sw (by decide) rfl (t := 926) (by decide) (law_case_24 hL31 hi hLR (hpC10 s) (hpM10 t) hA hB (fun HS' hLR' => fin s' t' HS' hR' hLR'))
set_option maxRecDepth 100000 in
theorem law_do_25 (hL31 : sc.length < 2 ^ 31) (hi : i + 6 ≤ sc.length) (hLR : LR (hp shC s) (hp shM t) HS) (k : stepOK_25 R s t (sc.getD (i + 1) 0) (sc.getD (i + 2) 0) (sc.getD (i + 3) 0)) (fin : ∀ (s' t' : sg) (HS' : mH), R s' t' → LR (hp shC s') (hp shM t') HS' → mFin sc 31 nc ns (1441, lawL i, [], HS', nc, ns)) : mFin sc 31 nc ns (33, lawL i, [.int (nI 25)], HS, nc, ns) := by
  obtain ⟨u, w, s', t', A, B, hR'⟩ := k
  have hA := ((ok_C_mean A).le (by decide : 14 ≤ 30)).sc sc (by decide)
  have hB := ((ok_M_mean B).le (by decide : 4 ≤ 30)).sc sc (by decide)
  exact law_sw (by decide) rfl (t := 989) (by decide) (law_case_25 hL31 hi hLR (hpC10 s) (hpM10 t) hA hB (fun HS' hLR' => fin s' t' HS' hR' hLR'))
set_option maxRecDepth 100000 in
theorem law_do_26 (hL31 : sc.length < 2 ^ 31) (hi : i + 6 ≤ sc.length) (hLR : LR (hp shC s) (hp shM t) HS) (k : stepOK_26 R s t (sc.getD (i + 1) 0) (sc.getD (i + 2) 0) (sc.getD (i + 3) 0)) (fin : ∀ (s' t' : sg) (HS' : mH), R s' t' → LR (hp shC s') (hp shM t') HS' → mFin sc 31 nc ns (1441, lawL i, [], HS', nc, ns)) : mFin sc 31 nc ns (33, lawL i, [.int (nI 26)], HS, nc, ns) := by
  obtain ⟨u, w, s', t', A, B, hR'⟩ := k
  have hA := ((ok_C_see A).le (by decide : 1 ≤ 30)).sc sc (by decide)
  have hB := ((ok_M_see B).le (by decide : 2 ≤ 30)).sc sc (by decide)
  exact law_sw (by decide) rfl (t := 1032) (by decide) (law_case_26 hL31 hi hLR (hpC10 s) (hpM10 t) hA hB (fun HS' hLR' => fin s' t' HS' hR' hLR'))
set_option maxRecDepth 100000 in
theorem law_do_27 (hL31 : sc.length < 2 ^ 31) (hi : i + 6 ≤ sc.length) (hLR : LR (hp shC s) (hp shM t) HS) (k : stepOK_27 R s t (sc.getD (i + 1) 0)) (fin : ∀ (s' t' : sg) (HS' : mH), R s' t' → LR (hp shC s') (hp shM t') HS' → mFin sc 31 nc ns (1441, lawL i, [], HS', nc, ns)) : mFin sc 31 nc ns (33, lawL i, [.int (nI 27)], HS, nc, ns) := by
  obtain ⟨u, w, s', t', A, B, hR'⟩ := k
  have hA := ((ok_C_forget A).le (by decide : 1 ≤ 30)).sc sc (by decide)
  have hB := ((ok_M_forget B).le (by decide : 1 ≤ 30)).sc sc (by decide)
  exact law_sw (by decide) rfl (t := 1075) (by decide) (law_case_27 hL31 hi hLR (hpC10 s) (hpM10 t) hA hB (fun HS' hLR' => fin s' t' HS' hR' hLR'))
set_option maxRecDepth 100000 in
theorem law_do_28 (hL31 : sc.length < 2 ^ 31) (hi : i + 6 ≤ sc.length) (hLR : LR (hp shC s) (hp shM t) HS) (k : stepOK_28 R s t (sc.getD (i + 1) 0)) (fin : ∀ (s' t' : sg) (HS' : mH), R s' t' → LR (hp shC s') (hp shM t') HS' → mFin sc 31 nc ns (1441, lawL i, [], HS', nc, ns)) : mFin sc 31 nc ns (33, lawL i, [.int (nI 28)], HS, nc, ns) := by
  obtain ⟨u, w, s', t', A, B, hR'⟩ := k
  have hA := ((ok_C_kinds A).le (by decide : 5 ≤ 30)).sc sc (by decide)
  have hB := ((ok_M_kinds B).le (by decide : 6 ≤ 30)).sc sc (by decide)
  exact law_sw (by decide) rfl (t := 1098) (by decide) (law_case_28 hL31 hi hLR (hpC10 s) (hpM10 t) hA hB (fun HS' hLR' => fin s' t' HS' hR' hLR'))
set_option maxRecDepth 100000 in
theorem law_do_29 (hL31 : sc.length < 2 ^ 31) (hi : i + 6 ≤ sc.length) (hLR : LR (hp shC s) (hp shM t) HS) (k : stepOK_29 R s t (sc.getD (i + 1) 0)) (fin : ∀ (s' t' : sg) (HS' : mH), R s' t' → LR (hp shC s') (hp shM t') HS' → mFin sc 31 nc ns (1441, lawL i, [], HS', nc, ns)) : mFin sc 31 nc ns (33, lawL i, [.int (nI 29)], HS, nc, ns) := by
  obtain ⟨u, w, s', t', A, B, hR'⟩ := k
  have hA := ((ok_C_lets A).le (by decide : 6 ≤ 30)).sc sc (by decide)
  have hB := ((ok_M_lets B).le (by decide : 6 ≤ 30)).sc sc (by decide)
  exact law_sw (by decide) rfl (t := 1121) (by decide) (law_case_29 hL31 hi hLR (hpC10 s) (hpM10 t) hA hB (fun HS' hLR' => fin s' t' HS' hR' hLR'))
set_option maxRecDepth 100000 in
theorem law_do_30 (hL31 : sc.length < 2 ^ 31) (hi : i + 6 ≤ sc.length) (hLR : LR (hp shC s) (hp shM t) HS) (k : stepOK_30 R s t (sc.getD (i + 1) 0) (sc.getD (i + 2) 0)) (fin : ∀ (s' t' : sg) (HS' : mH), R s' t' → LR (hp shC s') (hp shM t') HS' → mFin sc 31 nc ns (1441, lawL i, [], HS', nc, ns)) : mFin sc 31 nc ns (33, lawL i, [.int (nI 30)], HS, nc, ns) := by
  obtain ⟨u, w, s', t', A, B, hR'⟩ := k
  have hA := ((ok_C_ask A).le (by decide : 6 ≤ 30)).sc sc (by decide)
  have hB := ((ok_M_ask B).le (by decide : 6 ≤ 30)).sc sc (by decide)
  exact law_sw (by decide) rfl (t := 1144) (by decide) (law_case_30 hL31 hi hLR (hpC10 s) (hpM10 t) hA hB (fun HS' hLR' => fin s' t' HS' hR' hLR'))
set_option maxRecDepth 100000 in
theorem law_do_31 (hL31 : sc.length < 2 ^ 31) (hi : i + 6 ≤ sc.length) (hLR : LR (hp shC s) (hp shM t) HS) (k : stepOK_31 R s t (sc.getD (i + 1) 0) (sc.getD (i + 2) 0) (sc.getD (i + 3) 0)) (fin : ∀ (s' t' : sg) (HS' : mH), R s' t' → LR (hp shC s') (hp shM t') HS' → mFin sc 31 nc ns (1441, lawL i, [], HS', nc, ns)) : mFin sc 31 nc ns (33, lawL i, [.int (nI 31)], HS, nc, ns) := by
  obtain ⟨u, w, s', t', A, B, hR'⟩ := k
  have hA := ((ok_C_drift A).le (by decide : 3 ≤ 30)).sc sc (by decide)
  have hB := ((ok_M_drift B).le (by decide : 3 ≤ 30)).sc sc (by decide)
  exact law_sw (by decide) rfl (t := 1177) (by decide) (law_case_31 hL31 hi hLR (hpC10 s) (hpM10 t) hA hB (fun HS' hLR' => fin s' t' HS' hR' hLR'))
set_option maxRecDepth 100000 in
theorem law_do_32 (hL31 : sc.length < 2 ^ 31) (hi : i + 6 ≤ sc.length) (hLR : LR (hp shC s) (hp shM t) HS) (k : stepOK_32 R s t (sc.getD (i + 1) 0)) (fin : ∀ (s' t' : sg) (HS' : mH), R s' t' → LR (hp shC s') (hp shM t') HS' → mFin sc 31 nc ns (1441, lawL i, [], HS', nc, ns)) : mFin sc 31 nc ns (33, lawL i, [.int (nI 32)], HS, nc, ns) := by
  obtain ⟨u, w, s', t', A, B, hR'⟩ := k
  have hA := ((ok_C_keep A).le (by decide : 1 ≤ 30)).sc sc (by decide)
  have hB := ((ok_M_keep B).le (by decide : 1 ≤ 30)).sc sc (by decide)
  exact law_sw (by decide) rfl (t := 1220) (by decide) (law_case_32 hL31 hi hLR (hpC10 s) (hpM10 t) hA hB (fun HS' hLR' => fin s' t' HS' hR' hLR'))
set_option maxRecDepth 100000 in
theorem law_do_33 (hL31 : sc.length < 2 ^ 31) (hi : i + 6 ≤ sc.length) (hLR : LR (hp shC s) (hp shM t) HS) (k : stepOK_33 R s t (sc.getD (i + 1) 0)) (fin : ∀ (s' t' : sg) (HS' : mH), R s' t' → LR (hp shC s') (hp shM t') HS' → mFin sc 31 nc ns (1441, lawL i, [], HS', nc, ns)) : mFin sc 31 nc ns (33, lawL i, [.int (nI 33)], HS, nc, ns) := by
  obtain ⟨u, w, s', t', A, B, hR'⟩ := k
  have hA := ((ok_C_back A).le (by decide : 1 ≤ 30)).sc sc (by decide)
  have hB := ((ok_M_back B).le (by decide : 1 ≤ 30)).sc sc (by decide)
  exact law_sw (by decide) rfl (t := 1243) (by decide) (law_case_33 hL31 hi hLR (hpC10 s) (hpM10 t) hA hB (fun HS' hLR' => fin s' t' HS' hR' hLR'))
set_option maxRecDepth 100000 in
theorem law_do_34 (hL31 : sc.length < 2 ^ 31) (hi : i + 6 ≤ sc.length) (hLR : LR (hp shC s) (hp shM t) HS) (k : stepOK_34 R s t (sc.getD (i + 1) 0) (sc.getD (i + 2) 0) (sc.getD (i + 3) 0)) (fin : ∀ (s' t' : sg) (HS' : mH), R s' t' → LR (hp shC s') (hp shM t') HS' → mFin sc 31 nc ns (1441, lawL i, [], HS', nc, ns)) : mFin sc 31 nc ns (33, lawL i, [.int (nI 34)], HS, nc, ns) := by
  obtain ⟨u, w, s', t', A, B, hR'⟩ := k
  have hA := ((ok_C_sheet A).le (by decide : 1 ≤ 30)).sc sc (by decide)
  have hB := ((ok_M_sheet B).le (by decide : 1 ≤ 30)).sc sc (by decide)
  exact law_sw (by decide) rfl (t := 1266) (by decide) (law_case_34 hL31 hi hLR (hpC10 s) (hpM10 t) hA hB (fun HS' hLR' => fin s' t' HS' hR' hLR'))
set_option maxRecDepth 100000 in
theorem law_do_35 (hL31 : sc.length < 2 ^ 31) (hi : i + 6 ≤ sc.length) (hLR : LR (hp shC s) (hp shM t) HS) (k : stepOK_35 R s t (sc.getD (i + 1) 0) (sc.getD (i + 2) 0) (sc.getD (i + 3) 0)) (fin : ∀ (s' t' : sg) (HS' : mH), R s' t' → LR (hp shC s') (hp shM t') HS' → mFin sc 31 nc ns (1441, lawL i, [], HS', nc, ns)) : mFin sc 31 nc ns (33, lawL i, [.int (nI 35)], HS, nc, ns) := by
  obtain ⟨u, w, s', t', A, B, hR'⟩ := k
  have hA := ((ok_C_lay A).le (by decide : 2 ≤ 30)).sc sc (by decide)
  have hB := ((ok_M_lay B).le (by decide : 1 ≤ 30)).sc sc (by decide)
  exact law_sw (by decide) rfl (t := 1309) (by decide) (law_case_35 hL31 hi hLR (hpC10 s) (hpM10 t) hA hB (fun HS' hLR' => fin s' t' HS' hR' hLR'))
set_option maxRecDepth 100000 in
theorem law_do_36 (hL31 : sc.length < 2 ^ 31) (hi : i + 6 ≤ sc.length) (hLR : LR (hp shC s) (hp shM t) HS) (k : stepOK_36 R s t (sc.getD (i + 1) 0) (sc.getD (i + 2) 0) (sc.getD (i + 3) 0) (sc.getD (i + 4) 0)) (fin : ∀ (s' t' : sg) (HS' : mH), R s' t' → LR (hp shC s') (hp shM t') HS' → mFin sc 31 nc ns (1441, lawL i, [], HS', nc, ns)) : mFin sc 31 nc ns (33, lawL i, [.int (nI 36)], HS, nc, ns) := by
  obtain ⟨u, w, s', t', A, B, hR'⟩ := k
  have hA := ((ok_C_read A).le (by decide : 5 ≤ 30)).sc sc (by decide)
  have hB := ((ok_M_read B).le (by decide : 4 ≤ 30)).sc sc (by decide)
  exact law_sw (by decide) rfl (t := 1352) (by decide) (law_case_36 hL31 hi hLR (hpC10 s) (hpM10 t) hA hB (fun HS' hLR' => fin s' t' HS' hR' hLR'))
set_option maxRecDepth 100000 in
theorem law_do_37 (hL31 : sc.length < 2 ^ 31) (hi : i + 6 ≤ sc.length) (hLR : LR (hp shC s) (hp shM t) HS) (k : stepOK_37 R s t) (fin : ∀ (s' t' : sg) (HS' : mH), R s' t' → LR (hp shC s') (hp shM t') HS' → mFin sc 31 nc ns (1441, lawL i, [], HS', nc, ns)) : mFin sc 31 nc ns (33, lawL i, [.int (nI 37)], HS, nc, ns) := by
  obtain ⟨u, w, A, B, hR'⟩ := k
  have hA := ((ok_C_torn A).le (by decide : 0 ≤ 30)).sc sc (by decide)
  have hB := ((ok_M_torn B).le (by decide : 0 ≤ 30)).sc sc (by decide)
  exact law_sw (by decide) rfl (t := 1405) (by decide) (law_case_37 hL31 hi hLR (hpC10 s) (hpM10 t) hA hB (fun HS' hLR' => fin s t HS' hR' hLR'))
set_option maxRecDepth 100000 in
theorem law_do_38 (hL31 : sc.length < 2 ^ 31) (hi : i + 6 ≤ sc.length) (hLR : LR (hp shC s) (hp shM t) HS) (k : stepOK_38 R s t (sc.getD (i + 1) 0)) (fin : ∀ (s' t' : sg) (HS' : mH), R s' t' → LR (hp shC s') (hp shM t') HS' → mFin sc 31 nc ns (1441, lawL i, [], HS', nc, ns)) : mFin sc 31 nc ns (33, lawL i, [.int (nI 38)], HS, nc, ns) := by
  obtain ⟨u, w, A, B, hR'⟩ := k
  have hA := ((ok_C_count A).le (by decide : 1 ≤ 30)).sc sc (by decide)
  have hB := ((ok_M_count B).le (by decide : 0 ≤ 30)).sc sc (by decide)
  exact law_sw (by decide) rfl (t := 1418) (by decide) (law_case_38 hL31 hi hLR (hpC10 s) (hpM10 t) hA hB (fun HS' hLR' => fin s t HS' hR' hLR'))
end DO
