theorem tI_inv {stk : List Value} {F : Int32 → List Value → Option mO} {o : mO} (h : tI stk F = some o) : ∃ x st, stk = .int x :: st ∧ F x st = some o := by
  unfold tI at h; split at h
  · exact ⟨_, _, rfl, h⟩
  · cases h
theorem tL_inv {stk : List Value} {F : Int64 → List Value → Option mO} {o : mO} (h : tL stk F = some o) : ∃ x st, stk = .long x :: st ∧ F x st = some o := by
  unfold tL at h; split at h
  · exact ⟨_, _, rfl, h⟩
  · cases h
theorem tR_inv {stk : List Value} {F : Nat → List Value → Option mO} {o : mO} (h : tR stk F = some o) : ∃ x st, stk = .ref x :: st ∧ F x st = some o := by
  unfold tR at h; split at h
  · exact ⟨_, _, rfl, h⟩
  · cases h
theorem tV_inv {stk : List Value} {F : Value → List Value → Option mO} {o : mO} (h : tV stk F = some o) : ∃ x st, stk = x :: st ∧ F x st = some o := by
  unfold tV at h; split at h
  · exact ⟨_, _, rfl, h⟩
  · cases h
theorem tE_inv {stk : List Value} {x : Option mO} {o : mO} (h : tE stk x = some o) : stk = [] ∧ x = some o := by
  unfold tE at h; split at h
  · exact ⟨rfl, h⟩
  · cases h
theorem lI_inv {loc : mL} {i : Nat} {F : Int32 → Option mO} {o : mO} (h : lI loc i F = some o) : ∃ x, mld loc i = some (.int x) ∧ F x = some o := by
  unfold lI at h; split at h
  · next x e => exact ⟨x, e, h⟩
  · cases h
theorem lL_inv {loc : mL} {i : Nat} {F : Int64 → Option mO} {o : mO} (h : lL loc i F = some o) : ∃ x, mld loc i = some (.long x) ∧ F x = some o := by
  unfold lL at h; split at h
  · next x e => exact ⟨x, e, h⟩
  · cases h
theorem lR_inv {loc : mL} {i : Nat} {F : Nat → Option mO} {o : mO} (h : lR loc i F = some o) : ∃ x, mld loc i = some (.ref x) ∧ F x = some o := by
  unfold lR at h; split at h
  · next x e => exact ⟨x, e, h⟩
  · cases h
theorem hO_inv {hs : mH} {r : Nat} {F : Nat → List Value → Option mO} {o : mO} (h : hO hs r F = some o) : ∃ c vs, hs[r]? = some (.inr (c, vs)) ∧ F c vs = some o := by
  unfold hO at h; split at h
  · next c vs e => exact ⟨c, vs, e, h⟩
  · cases h
theorem hA_inv {hs : mH} {r : Nat} {F : Nat → List Int32 → Option mO} {o : mO} (h : hA hs r F = some o) : ∃ c vs, hs[r]? = some (.inl (c, vs)) ∧ F c vs = some o := by
  unfold hA at h; split at h
  · next c vs e => exact ⟨c, vs, e, h⟩
  · cases h
theorem oB_inv {b : Bool} {x : Option mO} {o : mO} (h : oB b x = some o) : b = true ∧ x = some o := by
  cases b with
  | true => exact ⟨rfl, h⟩
  | false => cases h
theorem oI_inv {i : Int32} {n : Nat} {F : Nat → Option mO} {o : mO} (h : oI i n F = some o) : ∃ j, midx i n = some j ∧ F j = some o := by
  unfold oI at h; split at h
  · next j e => exact ⟨j, e, h⟩
  · cases h
theorem oV_inv {vs : List Value} {k : Nat} {F : Value → Option mO} {o : mO} (h : oV vs k F = some o) : ∃ v, vs[k]? = some v ∧ F v = some o := by
  unfold oV at h; split at h
  · next v e => exact ⟨v, e, h⟩
  · cases h
theorem oR_inv {vs : List Value} {k : Nat} {F : Nat → Option mO} {o : mO} (h : oR vs k F = some o) : ∃ v, vs[k]? = some (.ref v) ∧ F v = some o := by
  unfold oR at h; split at h
  · next v e => exact ⟨v, e, h⟩
  · cases h
theorem oN_inv {n : Int32} {F : Nat → Option mO} {o : mO} (h : oN n F = some o) : ¬ n < 0 ∧ F n.toNatClampNeg = some o := by
  unfold oN at h; split at h
  · cases h
  · next e => exact ⟨e, h⟩
theorem oP_inv {n : Nat} {stk : List Value} {F : List Value → List Value → Option mO} {o : mO} (h : oP n stk F = some o) : ∃ as rest, mpop n stk = some (as, rest) ∧ F as rest = some o := by
  unfold oP at h; split at h
  · next as rest e => exact ⟨as, rest, e, h⟩
  · cases h
theorem mlen1 {len n : Nat} {x : Bool} (h : (Nat.beq len n && x) = true) : len = n := Nat.eq_of_beq_eq_true (Bool.and_eq_true _ _ ▸ h).1
theorem mlen2 {p x : Bool} (h : (p && x) = true) : x = true := (Bool.and_eq_true _ _ ▸ h).2
theorem mand {p x : Bool} (h : (p && x) = true) : p = true ∧ x = true := (Bool.and_eq_true _ _ ▸ h)
theorem mor {p x : Bool} (h : (p || x) = true) : p = true ∨ x = true := (Bool.or_eq_true _ _ ▸ h)
theorem beqN {a b : Nat} (h : Nat.beq a b = true) : a = b := Nat.eq_of_beq_eq_true h
theorem catN {ad : Nat → Nat} {st : List Value} (h : Nat.ble (mcat st) 8 = true) : ((st.map (cV ad)).map fun v => v.category).sum ≤ 8 := by
  have h1 := Nat.le_of_ble_eq_true h
  have e : (st.map (cV ad)).map (fun v => v.category) = st.map (fun v => v.category) := by
    rw [List.map_map]; exact List.map_congr_left (fun v _ => cV_cat ad v)
  rw [e]; exact h1
section SIM
variable {p : Program} {l : Launch} {e : Env} {R : Room} {s : State} {m : MethodId} {args : Array Value} {below : List Frame} {meth : Method} {c : Code} {H : Heap} {locs : List Loc} {nc ns : Nat} {Q : State → Prop}
variable {D : va_G} {tc : Nat → ClassId} {ad : Nat → Nat} {A : Nat → Prop} {scr sc : List Int32} {H0 : Heap} {y pc : Nat} {hs : mH} {ls : Array Slot}
theorem s_jump (tgt : Nat) {x : Int32} {cd : ClassFile.Cond} {off : Int} {st : List Value} (hx : p.tables.exec = Jvm.exec) (hb : c.code = mbytes y) (hd : decode (mbytes y) pc = .ok (.ifCond cd off, 3)) (ht : (pc : Int) + off = (tgt : Int))
    (kt : mtk cd x 0 = true → W p l e R s m args below meth c H locs nc ns Q (F0 m tgt ls st)) (kf : mtk cd x 0 = false → W p l e R s m args below meth c H locs nc ns Q (F0 m (pc + 3) ls st)) : W p l e R s m args below meth c H locs nc ns Q (F0 m pc ls (.int x :: st)) := by
  cases cd with
  | eq => exact lv_if_eq hx hb hd ht (fun h => kt (decide_eq_true h)) (fun h => kf (decide_eq_false h))
  | ne => exact lv_if_ne hx hb hd ht (fun h => kt (decide_eq_true h)) (fun h => kf (decide_eq_false (fun w => w h)))
  | lt => exact lv_if_lt hx hb hd ht (fun h => kt (decide_eq_true h)) (fun h => kf (decide_eq_false h))
  | ge => exact lv_if_ge hx hb hd ht (fun h => kt (decide_eq_true h)) (fun h => kf (decide_eq_false h))
  | gt => exact lv_if_gt hx hb hd ht (fun h => kt (decide_eq_true h)) (fun h => kf (decide_eq_false h))
  | le => exact lv_if_le hx hb hd ht (fun h => kt (decide_eq_true h)) (fun h => kf (decide_eq_false h))
theorem s_jump2 (tgt : Nat) {x z : Int32} {cd : ClassFile.Cond} {off : Int} {st : List Value} (hx : p.tables.exec = Jvm.exec) (hb : c.code = mbytes y) (hd : decode (mbytes y) pc = .ok (.if_icmp cd off, 3)) (ht : (pc : Int) + off = (tgt : Int))
    (kt : mtk cd x z = true → W p l e R s m args below meth c H locs nc ns Q (F0 m tgt ls st)) (kf : mtk cd x z = false → W p l e R s m args below meth c H locs nc ns Q (F0 m (pc + 3) ls st)) : W p l e R s m args below meth c H locs nc ns Q (F0 m pc ls (.int z :: .int x :: st)) := by
  cases cd with
  | eq => exact lv_icmp_eq hx hb hd ht (fun h => kt (decide_eq_true h)) (fun h => kf (decide_eq_false h))
  | ne => exact lv_icmp_ne hx hb hd ht (fun h => kt (decide_eq_true h)) (fun h => kf (decide_eq_false (fun w => w h)))
  | lt => exact lv_icmp_lt hx hb hd ht (fun h => kt (decide_eq_true h)) (fun h => kf (decide_eq_false h))
  | ge => exact lv_icmp_ge hx hb hd ht (fun h => kt (decide_eq_true h)) (fun h => kf (decide_eq_false h))
  | gt => exact lv_icmp_gt hx hb hd ht (fun h => kt (decide_eq_true h)) (fun h => kf (decide_eq_false h))
  | le => exact lv_icmp_le hx hb hd ht (fun h => kt (decide_eq_true h)) (fun h => kf (decide_eq_false h))
theorem r_12 : ∀ {r : Nat}, r < 3 → r ≠ 0 → r = 1 ∨ r = 2
  | 0, _, h => absurd rfl h
  | 1, _, _ => Or.inl rfl
  | 2, _, _ => Or.inr rfl
  | n + 3, h, _ => absurd h (by omega)
theorem mlS_12 : mlS.all (fun q => Nat.beq q.2.2 1 || Nat.beq q.2.2 2) = true := by decide +kernel
theorem mlU_in {o i b : Nat} (h : (o, i, b) ∈ mlU) : (o, i, b) = (3, 102, 8) ∨ (o, i, b) = (3, 106, 9) := by
  simpa [mlU] using h
theorem ro_s {r : Nat} (h1 : 3 ≤ r) (h2 : r < 10) : ∃ i, i < 7 ∧ r = 3 + i ∧ roS r = roStr.getD i [] := ⟨r - 3, by omega, by omega, rfl⟩
theorem s_slen (C : mCtx p s m args meth c y D tc) (hst : mSt D tc ad A scr H0 hs H locs) (hSs : va_S A s.heap H locs) (hBA : ∃ B : Nat, A = fun q => B ≤ q) {adV : Nat → Nat} (hZ : jZ (fun i => ad (3 + i)) adV A s) (hl : ls.size = mmaxL y) (hR5 : 5 ≤ R.frames ∧ 360 ≤ R.locals) {idx r : Nat} {st : List Value} (hd : decode (mbytes y) pc = .ok (.invokevirtual idx, 3)) (hk : (mown y, idx, 8) ∈ mlU) (h1 : 3 ≤ r) (h2 : r < 10) (hcat : Nat.ble (mcat st) 8 = true) (hc1 : nc ≤ R.cells) (hs1 : ns ≤ R.slots)
    (k : ∀ locs', mSt D tc ad A scr H0 hs H locs' → W p l e R s m args below meth c H locs' nc ns Q (F0 m (pc + 3) ls (.int (Int32.ofNat (roS r).length) :: st.map (cV ad)))) : W p l e R s m args below meth c H locs nc ns Q (F0 m pc ls (.ref (ad r) :: st.map (cV ad))) := by
  obtain ⟨B, rfl⟩ := hBA
  obtain ⟨i, hi, rfl, e⟩ := ro_s h1 h2
  rw [e] at k
  obtain ⟨hX, hB, hml, hown, hts, -, -, -⟩ := C
  obtain ⟨ho, rfl⟩ : mown y = 3 ∧ idx = 102 := by
    rcases mlU_in hk with q | q
    · simp only [Prod.mk.injEq] at q; exact ⟨q.1, q.2.1⟩
    · simp only [Prod.mk.injEq] at q; exact absurd q.2.2 (by decide)
  have ho : mR (mown y) = RX3 := by rw [ho]; rfl
  rw [ho] at hown
  have cb := callB_of (R := R) (own := RX3) (index := 102) (y := yJ0_length_8abf5) (bytes := cJ0_length_8abf5) (maxL := 1) (ret := some .int) (ws := jW yJ0_length_8abf5 cJ0_length_8abf5 1 (some .int)) (ws' := mgood) (rm := jRm 1) (mc := 0) (ms := 0) 0 hts (jW_good (jB_in 27 rfl)) rfl rfl rfl (hts _ (jB_in 22 rfl)) (hts _ (jB_in 9 rfl)) ⟨by decide, by decide, by decide +kernel⟩ ⟨by show 1 + 1 + 1 ≤ R.frames; omega, by show 8 + (1 + 11) + (40 + 80 * 1) ≤ R.locals; omega⟩
  refine j_back (H0 := s.heap) hSs (va_runV (S := ⟨hX, hB, hml, hown, hts⟩) (j_length (adK := fun i => ad (3 + i)) (adV := adV) (B := B) hi) ⟨cb, hts _ (jB_in 13 rfl), hts _ (jB_in 17 rfl)⟩ ⟨jPc.blind, vk_recv hZ.1 hi hSs, fun U hU hW => ⟨rfl, j_key hZ hSs U hU hW⟩⟩ rfl rfl hl (As := []) (rest := st.map (cV ad)) rfl (lv_room (catN hcat)) hd ⟨hc1, hs1⟩) (fun locs' hS' => ?_)
  exact k locs' ⟨hst.1, hst.2.1, ⟨hst.2.2.1.1, hst.2.2.1.2.1, hS'.2.2⟩, hst.2.2.2⟩
theorem s_char (C : mCtx p s m args meth c y D tc) (hst : mSt D tc ad A scr H0 hs H locs) (hSs : va_S A s.heap H locs) (hBA : ∃ B : Nat, A = fun q => B ≤ q) {adV : Nat → Nat} (hZ : jZ (fun i => ad (3 + i)) adV A s) (hl : ls.size = mmaxL y) (hR5 : 5 ≤ R.frames ∧ 360 ≤ R.locals) {idx r j : Nat} {x : Int32} {st : List Value} (hd : decode (mbytes y) pc = .ok (.invokevirtual idx, 3)) (hk : (mown y, idx, 9) ∈ mlU) (h1 : 3 ≤ r) (h2 : r < 10) (hj : midx x (roS r).length = some j) (hcat : Nat.ble (mcat st) 8 = true) (hc1 : nc ≤ R.cells) (hs1 : ns ≤ R.slots)
    (k : ∀ locs', mSt D tc ad A scr H0 hs H locs' → W p l e R s m args below meth c H locs' nc ns Q (F0 m (pc + 3) ls (.int ((roS r).getD j 0) :: st.map (cV ad)))) : W p l e R s m args below meth c H locs nc ns Q (F0 m pc ls (.int x :: .ref (ad r) :: st.map (cV ad))) := by
  obtain ⟨B, rfl⟩ := hBA
  obtain ⟨i, hi, rfl, e⟩ := ro_s h1 h2
  rw [e] at k hj
  obtain ⟨hX, hB, hml, hown, hts, -, -, -⟩ := C
  obtain ⟨ho, rfl⟩ : mown y = 3 ∧ idx = 106 := by
    rcases mlU_in hk with q | q
    · simp only [Prod.mk.injEq] at q; exact absurd q.2.2 (by decide)
    · simp only [Prod.mk.injEq] at q; exact ⟨q.1, q.2.1⟩
  have ho : mR (mown y) = RX3 := by rw [ho]; rfl
  rw [ho] at hown
  have cb := callB_of (R := R) (own := RX3) (index := 106) (y := yJ0_charAt_5068e) (bytes := cJ0_charAt_5068e) (maxL := 2) (ret := some .char) (ws := jW yJ0_charAt_5068e cJ0_charAt_5068e 2 (some .char)) (ws' := mgood) (rm := jRm 3) (mc := 0) (ms := 0) 1 hts (jW_good (jB_in 28 rfl)) rfl rfl rfl (hts _ (jB_in 22 rfl)) (hts _ (jB_in 10 rfl)) ⟨by decide, by decide, by decide +kernel⟩ ⟨by show 3 + 1 + 1 ≤ R.frames; omega, by show 8 + (2 + 11) + (40 + 80 * 3) ≤ R.locals; omega⟩
  refine j_back (H0 := s.heap) hSs (va_runV (S := ⟨hX, hB, hml, hown, hts⟩) (j_charAt (adK := fun i => ad (3 + i)) (adV := adV) (B := B) hi hj) ⟨cb, hts _ (jB_in 14 rfl), hts _ (jB_in 18 rfl)⟩ ⟨jPc.blind, vk_recv hZ.1 hi hSs, fun U hU hW => ⟨rfl, j_key hZ hSs U hU hW⟩⟩ rfl rfl hl (As := [.int x]) (rest := st.map (cV ad)) rfl (lv_room (catN hcat)) hd ⟨hc1, hs1⟩) (fun locs' hS' => ?_)
  exact k locs' ⟨hst.1, hst.2.1, ⟨hst.2.2.1.1, hst.2.2.1.2.1, hS'.2.2⟩, hst.2.2.2⟩
set_option maxHeartbeats 4000000 in
theorem m_next (C : mCtx p s m args meth c y D tc) {loc : mL} {stk : List Value} {ins : Instr} {len a b : Nat} {z : Int} {q : mS} (hst : mSt D tc ad A scr H0 hs H locs) (hl : mLoc ad loc (mmaxL y) ls) (hR5 : 5 ≤ R.frames ∧ 360 ≤ R.locals) (hro : mro ad A s) (hH0 : H0 = s.heap) (hBA : ∃ B : Nat, A = fun q => B ≤ q) (hsc : y = 184 → va_X (ad 0) sc.length (fun j => sc.getD j 0) s H0 ∧ ad 0 < H0.size ∧ ¬ A (ad 0))
    (hd : decode (mbytes y) pc = .ok (ins, len)) (hk : mchk y (pc, ins, len, a, b, z) = true) (hx : mexec sc y ins a b z pc loc stk hs nc ns = some (.inl q)) (hc1 : q.2.2.2.2.1 ≤ R.cells) (hs1 : q.2.2.2.2.2 ≤ R.slots)
    (k : ∀ H' locs' ls', mSt D tc ad A scr H0 q.2.2.2.1 H' locs' → mLoc ad q.2.1 (mmaxL y) ls' → W p l e R s m args below meth c H' locs' q.2.2.2.2.1 q.2.2.2.2.2 Q (F0 m q.1 ls' (q.2.2.1.map (cV ad)))) :
    W p l e R s m args below meth c H locs nc ns Q (F0 m pc ls (stk.map (cV ad))) := by
  have hX := C.1
  have hB := C.2.1
  have hml := C.2.2.1
  have hown := C.2.2.2.1
  have hts := C.2.2.2.2.1
  have hls : c.maxLocals = ls.size := by rw [hml, hl.1]
  have hR : 1 ≤ R.frames ∧ 40 ≤ R.locals := ⟨by omega, by omega⟩
  have hSs : va_S A s.heap H locs := by rw [← hH0]; exact hst.2.2.1
  cases ins with
  | iconst n =>
    obtain rfl := mlen1 (n := 1) hk
    obtain rfl := mgo_inv hx
    exact lv_iconst hX hB hd rfl (k _ _ _ hst hl)
  | bipush n =>
    obtain rfl := mlen1 (n := 2) hk
    obtain rfl := mgo_inv hx
    exact lv_bipush hX hB hd rfl (k _ _ _ hst hl)
  | sipush n =>
    obtain rfl := mlen1 (n := 3) hk
    obtain rfl := mgo_inv hx
    exact lv_sipush hX hB hd rfl (k _ _ _ hst hl)
  | lconst n =>
    obtain rfl := mlen1 (n := 1) hk
    obtain rfl := mgo_inv hx
    exact lv_lconst hX hB hd rfl (k _ _ _ hst hl)
  | ldc i =>
    obtain rfl := mlen1 (n := 2) hk
    have hk : (bif Nat.beq a 0 then mlK.any (meqz (mown y, i, z)) else mlT.any (meq3 (mown y, i, a))) = true := mlen2 hk
    have hx0 : (bif Nat.beq a 0 then mgo (pc + 2) loc (.int (Int32.ofInt z) :: stk) hs nc ns else oB (Nat.blt a 10) (mgo (pc + 2) loc (.ref a :: stk) hs nc ns)) = some (.inl q) := hx
    cases ha : Nat.beq a 0 with
    | true =>
      rw [ha, cond_true] at hk hx0
      obtain rfl := mgo_inv hx0
      exact lv_ldc hX hB hown (hts _ (hwK (manyz hk))) hd (k _ _ _ hst hl)
    | false =>
      rw [ha, cond_false] at hk hx0
      obtain ⟨-, hx1⟩ := oB_inv hx0
      obtain rfl := mgo_inv hx1
      exact va_ldcS hX hB hown (hro.2.2.2 (mown y, i, a) (many3 hk)) hd (k _ _ _ hst hl)
  | getstatic i =>
    obtain rfl := mlen1 (n := 3) hk
    have hk : mlS.any (meq3 (mown y, i, a)) = true := mlen2 hk
    obtain ⟨-, hx1⟩ := oB_inv hx
    obtain rfl := mgo_inv hx1
    have hm := many3 hk
    have h12 : a = 1 ∨ a = 2 := by
      have h0 := List.all_eq_true.mp mlS_12 _ hm
      exact (mor h0).imp beqN beqN
    exact va_getsN hX hB (hro.2.1 a h12).1 hSs hown (va_Nw.use rfl (hro.2.2.1 (mown y, i, a) hm)) (fun x h => h) hd (k _ _ _ hst hl)
  | ldc2_w i =>
    obtain rfl := mlen1 (n := 3) hk
    obtain rfl := mgo_inv hx
    have hk : mlL.any (meqz (mown y, i, z)) = true := mlen2 hk
    exact lv_ldc2 hX hB hown (hts _ (hwL (manyz hk))) hd (k _ _ _ hst hl)
  | iload_n n =>
    obtain rfl := mlen1 (n := 1) hk
    obtain ⟨x, hv, hx1⟩ := lI_inv hx
    obtain rfl := mgo_inv hx1
    exact lv_iload_n hX hB hd rfl (hl.2.2 _ _ hv) (k _ _ _ hst hl)
  | iload n =>
    obtain rfl := mlen1 (n := 2) hk
    obtain ⟨x, hv, hx1⟩ := lI_inv hx
    obtain rfl := mgo_inv hx1
    exact lv_iload hX hB hd (hl.2.2 _ _ hv) (k _ _ _ hst hl)
  | lload_n n =>
    obtain rfl := mlen1 (n := 1) hk
    obtain ⟨x, hv, hx1⟩ := lL_inv hx
    obtain rfl := mgo_inv hx1
    exact lv_lload_n hX hB hd rfl (hl.2.2 _ _ hv) (k _ _ _ hst hl)
  | lload n =>
    obtain rfl := mlen1 (n := 2) hk
    obtain ⟨x, hv, hx1⟩ := lL_inv hx
    obtain rfl := mgo_inv hx1
    exact lv_lload hX hB hd (hl.2.2 _ _ hv) (k _ _ _ hst hl)
  | aload_n n =>
    obtain rfl := mlen1 (n := 1) hk
    obtain ⟨x, hv, hx1⟩ := lR_inv hx
    obtain rfl := mgo_inv hx1
    exact lv_aload_n hX hB hd rfl (hl.2.2 _ _ hv) (k _ _ _ hst hl)
  | aload n =>
    obtain rfl := mlen1 (n := 2) hk
    obtain ⟨x, hv, hx1⟩ := lR_inv hx
    obtain rfl := mgo_inv hx1
    exact lv_aload hX hB hd (hl.2.2 _ _ hv) (k _ _ _ hst hl)
  | istore_n n =>
    obtain rfl := mlen1 (n := 1) hk
    obtain ⟨x, st, e0, hx1⟩ := tI_inv hx
    subst e0
    obtain ⟨hn, hx2⟩ := oB_inv hx1
    obtain rfl := mgo_inv hx2
    exact lv_istore_n hX hB hd rfl hl.has (lt_of_blt hn) rfl (fun ls' hl' => k _ _ _ hst (mLoc.st1 (v := .int x) hl'))
  | istore n =>
    obtain rfl := mlen1 (n := 2) hk
    obtain ⟨x, st, e0, hx1⟩ := tI_inv hx
    subst e0
    obtain ⟨hn, hx2⟩ := oB_inv hx1
    obtain rfl := mgo_inv hx2
    exact lv_istore hX hB hd hl.has (lt_of_blt hn) rfl (fun ls' hl' => k _ _ _ hst (mLoc.st1 (v := .int x) hl'))
  | lstore_n n =>
    obtain rfl := mlen1 (n := 1) hk
    obtain ⟨x, st, e0, hx1⟩ := tL_inv hx
    subst e0
    obtain ⟨hn, hx2⟩ := oB_inv hx1
    obtain rfl := mgo_inv hx2
    exact lv_lstore_n hX hB hd rfl hl.has (lt_of_blt hn) rfl (fun ls' hl' => k _ _ _ hst (mLoc.st2 (v := .long x) hl'))
  | lstore n =>
    obtain rfl := mlen1 (n := 2) hk
    obtain ⟨x, st, e0, hx1⟩ := tL_inv hx
    subst e0
    obtain ⟨hn, hx2⟩ := oB_inv hx1
    obtain rfl := mgo_inv hx2
    exact lv_lstore hX hB hd hl.has (lt_of_blt hn) rfl (fun ls' hl' => k _ _ _ hst (mLoc.st2 (v := .long x) hl'))
  | astore_n n =>
    obtain rfl := mlen1 (n := 1) hk
    obtain ⟨x, st, e0, hx1⟩ := tR_inv hx
    subst e0
    obtain ⟨hn, hx2⟩ := oB_inv hx1
    obtain rfl := mgo_inv hx2
    exact lv_astore_n hX hB hd rfl hl.has (lt_of_blt hn) rfl (fun ls' hl' => k _ _ _ hst (mLoc.st1 (v := .ref x) hl'))
  | astore n =>
    obtain rfl := mlen1 (n := 2) hk
    obtain ⟨x, st, e0, hx1⟩ := tR_inv hx
    subst e0
    obtain ⟨hn, hx2⟩ := oB_inv hx1
    obtain rfl := mgo_inv hx2
    exact lv_astore hX hB hd hl.has (lt_of_blt hn) rfl (fun ls' hl' => k _ _ _ hst (mLoc.st1 (v := .ref x) hl'))
  | iinc i n =>
    obtain rfl := mlen1 (n := 3) hk
    obtain ⟨x, hv, hx1⟩ := lI_inv hx
    obtain rfl := mgo_inv hx1
    have hmem : (i, Value.int x) ∈ mflat ad loc := mflat_mem.mpr ⟨.int x, hv, rfl⟩
    obtain ⟨kk, hkk⟩ := List.getElem?_of_mem hmem
    have hi : i < mmaxL y := by rw [← hl.1]; exact lv_lt (hl.2.2 _ _ hv)
    exact lv_iinc hX hB hd hl.has hkk rfl hi rfl (fun ls' hl' => k _ _ _ hst (mLoc.st1 (v := .int (x + Int32.ofInt n)) hl'))
  | iadd =>
    obtain rfl := mlen1 (n := 1) hk
    have hx1 : mI2 (fun x y => some (x + y)) (fun st => mgo (pc + 1) loc st hs nc ns) stk = some (.inl q) := hx
    obtain ⟨x, w, st, v, rfl, hf, hx2⟩ := mI2_inv hx1
    cases hf
    obtain rfl := mgo_inv hx2
    exact lv_iadd hX hB hd (k _ _ _ hst hl)
  | isub =>
    obtain rfl := mlen1 (n := 1) hk
    have hx1 : mI2 (fun x y => some (x - y)) (fun st => mgo (pc + 1) loc st hs nc ns) stk = some (.inl q) := hx
    obtain ⟨x, w, st, v, rfl, hf, hx2⟩ := mI2_inv hx1
    cases hf
    obtain rfl := mgo_inv hx2
    exact lv_isub hX hB hd (k _ _ _ hst hl)
  | imul =>
    obtain rfl := mlen1 (n := 1) hk
    have hx1 : mI2 (fun x y => some (x * y)) (fun st => mgo (pc + 1) loc st hs nc ns) stk = some (.inl q) := hx
    obtain ⟨x, w, st, v, rfl, hf, hx2⟩ := mI2_inv hx1
    cases hf
    obtain rfl := mgo_inv hx2
    exact lv_imul hX hB hd (k _ _ _ hst hl)
  | iand =>
    obtain rfl := mlen1 (n := 1) hk
    have hx1 : mI2 (fun x y => some (x &&& y)) (fun st => mgo (pc + 1) loc st hs nc ns) stk = some (.inl q) := hx
    obtain ⟨x, w, st, v, rfl, hf, hx2⟩ := mI2_inv hx1
    cases hf
    obtain rfl := mgo_inv hx2
    exact lv_iand hX hB hd (k _ _ _ hst hl)
  | ior =>
    obtain rfl := mlen1 (n := 1) hk
    have hx1 : mI2 (fun x y => some (x ||| y)) (fun st => mgo (pc + 1) loc st hs nc ns) stk = some (.inl q) := hx
    obtain ⟨x, w, st, v, rfl, hf, hx2⟩ := mI2_inv hx1
    cases hf
    obtain rfl := mgo_inv hx2
    exact lv_ior hX hB hd (k _ _ _ hst hl)
  | ixor =>
    obtain rfl := mlen1 (n := 1) hk
    have hx1 : mI2 (fun x y => some (x ^^^ y)) (fun st => mgo (pc + 1) loc st hs nc ns) stk = some (.inl q) := hx
    obtain ⟨x, w, st, v, rfl, hf, hx2⟩ := mI2_inv hx1
    cases hf
    obtain rfl := mgo_inv hx2
    exact lv_ixor hX hB hd (k _ _ _ hst hl)
  | idiv =>
    obtain rfl := mlen1 (n := 1) hk
    have hx1 : mI2 (fun x y => if y = 0 then none else some (x / y)) (fun st => mgo (pc + 1) loc st hs nc ns) stk = some (.inl q) := hx
    obtain ⟨x, w, st, v, rfl, hf, hx2⟩ := mI2_inv hx1
    by_cases h0 : w = 0
    · rw [if_pos h0] at hf; cases hf
    · rw [if_neg h0] at hf
      cases hf
      obtain rfl := mgo_inv hx2
      exact lv_idiv hX hB hd h0 (k _ _ _ hst hl)
  | irem =>
    obtain rfl := mlen1 (n := 1) hk
    have hx1 : mI2 (fun x y => if y = 0 then none else some (x - x / y * y)) (fun st => mgo (pc + 1) loc st hs nc ns) stk = some (.inl q) := hx
    obtain ⟨x, w, st, v, rfl, hf, hx2⟩ := mI2_inv hx1
    by_cases h0 : w = 0
    · rw [if_pos h0] at hf; cases hf
    · rw [if_neg h0] at hf
      cases hf
      obtain rfl := mgo_inv hx2
      exact lv_irem hX hB hd h0 (k _ _ _ hst hl)
  | ishl =>
    obtain rfl := mlen1 (n := 1) hk
    have hx1 : mI2 (fun x y => some (x <<< (y &&& 31))) (fun st => mgo (pc + 1) loc st hs nc ns) stk = some (.inl q) := hx
    obtain ⟨x, w, st, v, rfl, hf, hx2⟩ := mI2_inv hx1
    cases hf
    obtain rfl := mgo_inv hx2
    exact lv_ishl hX hB hd (k _ _ _ hst hl)
  | ishr =>
    obtain rfl := mlen1 (n := 1) hk
    have hx1 : mI2 (fun x y => some (x >>> (y &&& 31))) (fun st => mgo (pc + 1) loc st hs nc ns) stk = some (.inl q) := hx
    obtain ⟨x, w, st, v, rfl, hf, hx2⟩ := mI2_inv hx1
    cases hf
    obtain rfl := mgo_inv hx2
    exact lv_ishr hX hB hd (k _ _ _ hst hl)
  | iushr =>
    obtain rfl := mlen1 (n := 1) hk
    have hx1 : mI2 (fun x y => some ((x.toUInt32 >>> (y.toUInt32 &&& Int32.toUInt32 31)).toInt32)) (fun st => mgo (pc + 1) loc st hs nc ns) stk = some (.inl q) := hx
    obtain ⟨x, w, st, v, rfl, hf, hx2⟩ := mI2_inv hx1
    cases hf
    obtain rfl := mgo_inv hx2
    exact lv_iushr hX hB hd rfl (k _ _ _ hst hl)
  | ineg =>
    obtain rfl := mlen1 (n := 1) hk
    have hx1 : mI1 (fun x => .int (-x)) (fun st => mgo (pc + 1) loc st hs nc ns) stk = some (.inl q) := hx
    obtain ⟨x, st, rfl, hx2⟩ := mI1_inv hx1
    obtain rfl := mgo_inv hx2
    exact lv_ineg hX hB hd (k _ _ _ hst hl)
  | i2l =>
    obtain rfl := mlen1 (n := 1) hk
    have hx1 : mI1 (fun x => .long x.toInt64) (fun st => mgo (pc + 1) loc st hs nc ns) stk = some (.inl q) := hx
    obtain ⟨x, st, rfl, hx2⟩ := mI1_inv hx1
    obtain rfl := mgo_inv hx2
    exact lv_i2l hX hB hd rfl (k _ _ _ hst hl)
  | i2b =>
    obtain rfl := mlen1 (n := 1) hk
    have hx1 : mI1 (fun x => .int x.toInt8.toInt32) (fun st => mgo (pc + 1) loc st hs nc ns) stk = some (.inl q) := hx
    obtain ⟨x, st, rfl, hx2⟩ := mI1_inv hx1
    obtain rfl := mgo_inv hx2
    exact lv_i2b hX hB hd rfl (k _ _ _ hst hl)
  | i2s =>
    obtain rfl := mlen1 (n := 1) hk
    have hx1 : mI1 (fun x => .int x.toInt16.toInt32) (fun st => mgo (pc + 1) loc st hs nc ns) stk = some (.inl q) := hx
    obtain ⟨x, st, rfl, hx2⟩ := mI1_inv hx1
    obtain rfl := mgo_inv hx2
    exact lv_i2s hX hB hd rfl (k _ _ _ hst hl)
  | i2c =>
    obtain rfl := mlen1 (n := 1) hk
    have hx1 : mI1 (fun x => .int (x.toUInt32 % 65536).toInt32) (fun st => mgo (pc + 1) loc st hs nc ns) stk = some (.inl q) := hx
    obtain ⟨x, st, rfl, hx2⟩ := mI1_inv hx1
    obtain rfl := mgo_inv hx2
    exact lv_i2c hX hB hd rfl (k _ _ _ hst hl)
  | ladd =>
    obtain rfl := mlen1 (n := 1) hk
    have hx1 : mL2 (fun x y => some (.long (x + y))) (fun st => mgo (pc + 1) loc st hs nc ns) stk = some (.inl q) := hx
    obtain ⟨x, w, st, v, rfl, hf, hx2⟩ := mL2_inv hx1
    cases hf
    obtain rfl := mgo_inv hx2
    exact lv_ladd hX hB hd (k _ _ _ hst hl)
  | lmul =>
    obtain rfl := mlen1 (n := 1) hk
    have hx1 : mL2 (fun x y => some (.long (x * y))) (fun st => mgo (pc + 1) loc st hs nc ns) stk = some (.inl q) := hx
    obtain ⟨x, w, st, v, rfl, hf, hx2⟩ := mL2_inv hx1
    cases hf
    obtain rfl := mgo_inv hx2
    exact lv_lmul hX hB hd (k _ _ _ hst hl)
  | ldiv =>
    obtain rfl := mlen1 (n := 1) hk
    have hx1 : mL2 (fun x y => if y = 0 then none else some (.long (x / y))) (fun st => mgo (pc + 1) loc st hs nc ns) stk = some (.inl q) := hx
    obtain ⟨x, w, st, v, rfl, hf, hx2⟩ := mL2_inv hx1
    by_cases h0 : w = 0
    · rw [if_pos h0] at hf; cases hf
    · rw [if_neg h0] at hf
      cases hf
      obtain rfl := mgo_inv hx2
      exact lv_ldiv hX hB hd h0 (k _ _ _ hst hl)
  | lrem =>
    obtain rfl := mlen1 (n := 1) hk
    have hx1 : mL2 (fun x y => if y = 0 then none else some (.long (x - x / y * y))) (fun st => mgo (pc + 1) loc st hs nc ns) stk = some (.inl q) := hx
    obtain ⟨x, w, st, v, rfl, hf, hx2⟩ := mL2_inv hx1
    by_cases h0 : w = 0
    · rw [if_pos h0] at hf; cases hf
    · rw [if_neg h0] at hf
      cases hf
      obtain rfl := mgo_inv hx2
      exact lv_lrem hX hB hd h0 (k _ _ _ hst hl)
  | lcmp =>
    obtain rfl := mlen1 (n := 1) hk
    have hx1 : mL2 (fun x y => some (.int (lg_cmp x y))) (fun st => mgo (pc + 1) loc st hs nc ns) stk = some (.inl q) := hx
    obtain ⟨x, w, st, v, rfl, hf, hx2⟩ := mL2_inv hx1
    cases hf
    obtain rfl := mgo_inv hx2
    exact W.lcmp hX hB hd (k _ _ _ hst hl)
  | dup =>
    obtain rfl := mlen1 (n := 1) hk
    obtain ⟨v, st, e0, hx1⟩ := tV_inv hx
    subst e0
    obtain ⟨hv, hx2⟩ := oB_inv hx1
    obtain rfl := mgo_inv hx2
    exact lv_dup hX hB hd (by rw [cV_cat]; exact beqN hv) (k _ _ _ hst hl)
  | pop =>
    obtain rfl := mlen1 (n := 1) hk
    obtain ⟨v, st, e0, hx1⟩ := tV_inv hx
    subst e0
    obtain ⟨hv, hx2⟩ := oB_inv hx1
    obtain rfl := mgo_inv hx2
    exact lv_pop hX hB hd (va := cV ad v) (by rw [cV_cat]; exact beqN hv) (k _ _ _ hst hl)
  | pop2 =>
    obtain rfl := mlen1 (n := 1) hk
    obtain ⟨v, st, e0, hx1⟩ := tV_inv hx
    subst e0
    obtain ⟨hv, hx2⟩ := oB_inv hx1
    obtain rfl := mgo_inv hx2
    exact lv_pop2_2 hX hB hd (va := cV ad v) (by rw [cV_cat]; exact beqN hv) (k _ _ _ hst hl)
  | dup2 =>
    obtain rfl := mlen1 (n := 1) hk
    obtain ⟨v, st, e0, hx1⟩ := tV_inv hx
    subst e0
    obtain ⟨w, st, e0, hx2⟩ := tV_inv hx1
    subst e0
    obtain ⟨hv, hx3⟩ := oB_inv hx2
    obtain ⟨hw, hx4⟩ := oB_inv hx3
    obtain rfl := mgo_inv hx4
    exact lv_dup2_11 hX hB hd (by rw [cV_cat]; exact beqN hv) (by rw [cV_cat]; exact beqN hw) (k _ _ _ hst hl)
  | goto off =>
    obtain rfl := mlen1 (n := 3) hk
    obtain ⟨t, ht, rfl⟩ := mjp_inv hx
    exact lv_goto hX hB hd ht (k _ _ _ hst hl)
  | ifCond cd off =>
    obtain rfl := mlen1 (n := 3) hk
    have hpos : 0 ≤ (pc : Int) + off := of_decide_eq_true (mlen2 hk)
    obtain ⟨x, st, e0, hx1⟩ := tI_inv hx
    subst e0
    obtain ⟨t, ht⟩ := Int.eq_ofNat_of_zero_le hpos
    refine s_jump t hX hB hd ht (fun w => ?_) (fun w => ?_)
    · rw [w, cond_true] at hx1
      obtain ⟨t', ht', rfl⟩ := mjp_inv hx1
      have : t' = t := by omega
      subst this
      exact k _ _ _ hst hl
    · rw [w, cond_false] at hx1
      obtain rfl := mgo_inv hx1
      exact k _ _ _ hst hl
  | if_icmp cd off =>
    obtain rfl := mlen1 (n := 3) hk
    have hpos : 0 ≤ (pc : Int) + off := of_decide_eq_true (mlen2 hk)
    obtain ⟨x, st, e0, hx1⟩ := tI_inv hx
    subst e0
    obtain ⟨x', st, e0, hx2⟩ := tI_inv hx1
    subst e0
    obtain ⟨t, ht⟩ := Int.eq_ofNat_of_zero_le hpos
    refine s_jump2 t hX hB hd ht (fun w => ?_) (fun w => ?_)
    · rw [w, cond_true] at hx2
      obtain ⟨t', ht', rfl⟩ := mjp_inv hx2
      have : t' = t := by omega
      subst this
      exact k _ _ _ hst hl
    · rw [w, cond_false] at hx2
      obtain rfl := mgo_inv hx2
      exact k _ _ _ hst hl
  | tableswitch d lo hi offs =>
    obtain ⟨x, st, e0, hx1⟩ := tI_inv hx
    subst e0
    by_cases h0 : x.toInt < lo ∨ hi < x.toInt
    · rw [if_pos h0] at hx1
      obtain ⟨t, ht, rfl⟩ := mjp_inv hx1
      exact lv_tableOut hX hB hd h0 ht (k _ _ _ hst hl)
    · rw [if_neg h0] at hx1
      cases e : offs[(x.toInt - lo).toNat]? with
      | none => rw [e] at hx1; cases hx1
      | some off =>
        rw [e] at hx1
        obtain ⟨t, ht, rfl⟩ := mjp_inv hx1
        exact lv_tableIn hX hB hd (fun w => h0 (Or.inl w)) (fun w => h0 (Or.inr w)) e ht (k _ _ _ hst hl)
  | getfield i =>
    obtain rfl := mlen1 (n := 3) hk
    obtain ⟨h1, h2⟩ := mand (mlen2 hk)
    obtain ⟨h2, h3⟩ := mand h2
    obtain ⟨r, st, e0, hx1⟩ := tR_inv hx
    subst e0
    obtain ⟨c', vs, hr, hx2⟩ := hO_inv hx1
    obtain ⟨hc, hx3⟩ := oB_inv hx2
    obtain ⟨v, hv, hx4⟩ := oV_inv hx3
    obtain rfl := mgo_inv hx4
    have := beqN hc
    subst this
    exact s_getf C hst hd (many4 h1) (lt_of_blt h2) (lt_of_blt h3) hr hv (k _ _ _ hst hl)
  | putfield i =>
    obtain rfl := mlen1 (n := 3) hk
    obtain ⟨h1, h2⟩ := mand (mlen2 hk)
    obtain ⟨h2, h3⟩ := mand h2
    obtain ⟨h3, h4⟩ := mand h3
    obtain ⟨v, st, e0, hx1⟩ := tV_inv hx
    subst e0
    obtain ⟨r, st, e0, hx2⟩ := tR_inv hx1
    subst e0
    obtain ⟨g3, hx3⟩ := oB_inv hx2
    have g3 := Nat.le_of_ble_eq_true g3
    obtain ⟨c', vs, hr, hx4⟩ := hO_inv hx3
    obtain ⟨hc, hx5⟩ := oB_inv hx4
    obtain ⟨hv, hx6⟩ := oB_inv hx5
    obtain ⟨hf, hx7⟩ := oB_inv hx6
    obtain rfl := mgo_inv hx7
    have := beqN hc
    subst this
    refine s_putf C hst hd (many4 h1) (lt_of_blt h2) (lt_of_blt h3) g3 hr (lt_of_blt hv) hf ?_ (fun H' locs' h' => k _ _ _ h' hl)
    rcases mor h4 with w | w
    · exact Or.inl (of_decide_eq_true w)
    · obtain ⟨w1, w2⟩ := mand w
      exact Or.inr ⟨of_decide_eq_true w1, of_decide_eq_true w2⟩
  | iaload =>
    obtain rfl := mlen1 (n := 1) hk
    obtain ⟨i, st, e0, hx1⟩ := tI_inv hx
    subst e0
    obtain ⟨r, st, e0, hx2⟩ := tR_inv hx1
    subst e0
    cases g3 : Nat.ble mn0 r with
    | true =>
      rw [g3, cond_true] at hx2
      obtain ⟨c', xs, hr, hx3⟩ := hA_inv hx2
      obtain ⟨hc, hx4⟩ := oB_inv hx3
      obtain ⟨j, hj, hx5⟩ := oI_inv hx4
      obtain rfl := mgo_inv hx5
      have := beqN hc
      subst this
      exact s_iald C hst hd (Nat.le_of_ble_eq_true g3) hr hj (k _ _ _ hst hl)
    | false =>
      rw [g3, cond_false] at hx2
      cases h0 : Nat.beq r 0 with
      | true =>
        rw [h0, cond_true] at hx2
        obtain ⟨h1, hx4⟩ := oB_inv hx2
        obtain ⟨j, hj, hx5⟩ := oI_inv hx4
        obtain rfl := mgo_inv hx5
        have := beqN h0
        subst this
        exact s_iscr C hst (hsc (beqN h1)) hd hj (k _ _ _ hst hl)
      | false =>
        rw [h0, cond_false] at hx2
        obtain ⟨h1, hx4⟩ := oB_inv hx2
        obtain ⟨j, hj, hx5⟩ := oI_inv hx4
        obtain rfl := mgo_inv hx5
        have h3 := lt_of_blt h1
        have h12 : r = 1 ∨ r = 2 := r_12 h3 (fun w => by rw [w] at h0; cases h0)
        obtain ⟨m1, m2, m3⟩ := midx_inv hj
        exact va_ti hX hB (hro.2.1 r h12).2 hSs m1 (v := .int ((roA r).getD j 0)) (by rw [m2]) hd (k _ _ _ hst hl)
  | baload =>
    obtain rfl := mlen1 (n := 1) hk
    obtain ⟨i, st, e0, hx1⟩ := tI_inv hx
    subst e0
    obtain ⟨r, st, e0, hx2⟩ := tR_inv hx1
    subst e0
    obtain ⟨g3, hx2b⟩ := oB_inv hx2
    have g3 := Nat.le_of_ble_eq_true g3
    obtain ⟨c', xs, hr, hx3⟩ := hA_inv hx2b
    obtain ⟨hc, hx4⟩ := oB_inv hx3
    obtain ⟨j, hj, hx5⟩ := oI_inv hx4
    obtain rfl := mgo_inv hx5
    exact s_bald C hst hd g3 hr ((mor hc).imp beqN beqN) hj (k _ _ _ hst hl)
  | iastore =>
    obtain rfl := mlen1 (n := 1) hk
    obtain ⟨x, st, e0, hx1⟩ := tI_inv hx
    subst e0
    obtain ⟨i, st, e0, hx2⟩ := tI_inv hx1
    subst e0
    obtain ⟨r, st, e0, hx3⟩ := tR_inv hx2
    subst e0
    obtain ⟨g3, hx4⟩ := oB_inv hx3
    have g3 := Nat.le_of_ble_eq_true g3
    obtain ⟨c', xs, hr, hx5⟩ := hA_inv hx4
    obtain ⟨hc, hx6⟩ := oB_inv hx5
    obtain ⟨j, hj, hx7⟩ := oI_inv hx6
    obtain rfl := mgo_inv hx7
    have := beqN hc
    subst this
    exact s_iast C hst hd g3 hr hj (fun H' locs' h' => k _ _ _ h' hl)
  | bastore =>
    obtain rfl := mlen1 (n := 1) hk
    obtain ⟨x, st, e0, hx1⟩ := tI_inv hx
    subst e0
    obtain ⟨i, st, e0, hx2⟩ := tI_inv hx1
    subst e0
    obtain ⟨r, st, e0, hx3⟩ := tR_inv hx2
    subst e0
    obtain ⟨g3, hx4⟩ := oB_inv hx3
    have g3 := Nat.le_of_ble_eq_true g3
    obtain ⟨c', xs, hr, hx5⟩ := hA_inv hx4
    obtain ⟨j, hj, hx6⟩ := oI_inv hx5
    cases e1 : Nat.beq c' 1 with
    | true =>
      rw [e1, cond_true] at hx6
      obtain rfl := mgo_inv hx6
      have := beqN e1
      subst this
      exact s_bast C hst hd g3 hr hj (fun H' locs' h' => k _ _ _ h' hl)
    | false =>
      rw [e1, cond_false] at hx6
      obtain ⟨hc, hx7⟩ := oB_inv hx6
      obtain rfl := mgo_inv hx7
      have := beqN hc
      subst this
      exact s_zast C hst hd g3 hr hj (fun H' locs' h' => k _ _ _ h' hl)
  | aaload =>
    obtain rfl := mlen1 (n := 1) hk
    obtain ⟨i, st, e0, hx1⟩ := tI_inv hx
    subst e0
    obtain ⟨r, st, e0, hx2⟩ := tR_inv hx1
    subst e0
    obtain ⟨c', vs, hr, hx3⟩ := hO_inv hx2
    obtain ⟨hc, hx4⟩ := oB_inv hx3
    obtain ⟨j, hj, hx5⟩ := oI_inv hx4
    obtain ⟨v, hv, hx6⟩ := oR_inv hx5
    obtain rfl := mgo_inv hx6
    exact s_aald C hst hd hr ((mor hc).imp beqN beqN) hj hv (k _ _ _ hst hl)
  | aastore =>
    obtain rfl := mlen1 (n := 1) hk
    obtain ⟨v, st, e0, hx1⟩ := tR_inv hx
    subst e0
    obtain ⟨i, st, e0, hx2⟩ := tI_inv hx1
    subst e0
    obtain ⟨r, st, e0, hx3⟩ := tR_inv hx2
    subst e0
    obtain ⟨g3, hx4⟩ := oB_inv hx3
    have g3 := Nat.le_of_ble_eq_true g3
    obtain ⟨c', vs, hr, hx5⟩ := hO_inv hx4
    obtain ⟨cv, ws, hv, hx6⟩ := hO_inv hx5
    obtain ⟨hc, hx7⟩ := oB_inv hx6
    obtain ⟨j, hj, hx8⟩ := oI_inv hx7
    obtain rfl := mgo_inv hx8
    exact s_aast C hst hd g3 hr hv ((mor hc).imp (fun w => ⟨beqN (mand w).1, beqN (mand w).2⟩) (fun w => ⟨beqN (mand w).1, beqN (mand w).2⟩)) hj (fun H' locs' h' => k _ _ _ h' hl)
  | arraylength =>
    obtain rfl := mlen1 (n := 1) hk
    obtain ⟨r, st, e0, hx1⟩ := tR_inv hx
    subst e0
    cases g3 : Nat.ble mn0 r with
    | true =>
      rw [g3, cond_true] at hx1
      obtain ⟨c', xs, hr, hx2⟩ := hA_inv hx1
      obtain ⟨hc, hx3⟩ := oB_inv hx2
      obtain rfl := mgo_inv hx3
      exact s_alen C hst hd (Nat.le_of_ble_eq_true g3) hr (Nat.le_of_ble_eq_true hc) (k _ _ _ hst hl)
    | false =>
      rw [g3, cond_false] at hx1
      obtain ⟨h0, hx2⟩ := oB_inv hx1
      obtain ⟨h1, hx3⟩ := oB_inv hx2
      obtain rfl := mgo_inv hx3
      have := beqN h0
      subst this
      exact s_lscr C hst (hsc (beqN h1)) hd (k _ _ _ hst hl)
  | new i =>
    obtain rfl := mlen1 (n := 3) hk
    obtain ⟨h1, h2⟩ := mand (mlen2 hk)
    obtain ⟨-, hx1⟩ := oB_inv hx
    obtain rfl := mgo_inv hx1
    exact s_new C hst hd (many3 h1) (lt_of_blt h2) hc1 hs1 (fun H' h' => k _ _ _ h' hl)
  | newarray t =>
    obtain rfl := mlen1 (n := 2) hk
    obtain ⟨n, st, e0, hx1⟩ := tI_inv hx
    subst e0
    cases e : mak t with
    | none => rw [e] at hx1; cases hx1
    | some kd =>
      rw [e] at hx1
      obtain ⟨h0, hx2⟩ := oN_inv hx1
      obtain ⟨hn, hx3⟩ := oB_inv hx2
      obtain rfl := mgo_inv hx3
      exact s_newa C hst hd e h0 (Nat.le_of_ble_eq_true hn) hc1 hs1 (fun H' h' => k _ _ _ h' hl)
  | anewarray i =>
    obtain rfl := mlen1 (n := 3) hk
    obtain ⟨h1, -⟩ := mand (mlen2 hk)
    obtain ⟨n, st, e0, hx1⟩ := tI_inv hx
    subst e0
    obtain ⟨ha, hx2⟩ := oB_inv hx1
    obtain ⟨h0, hx3⟩ := oN_inv hx2
    obtain ⟨hn, hx4⟩ := oB_inv hx3
    obtain rfl := mgo_inv hx4
    exact s_anew C hst hd (many3 h1) ((mor ha).imp beqN beqN) h0 (Nat.le_of_ble_eq_true hn) hc1 hs1 (fun H' h' => k _ _ _ h' hl)
  | invokevirtual i =>
    obtain rfl := mlen1 (n := 3) hk
    have hk := mlen2 hk
    have other : ∀ F : Option mO, F = some (.inl q) → F = (oP (marg a) stk fun as st => tR st fun r rest => hO hs r fun c _ => oB (Nat.beq c (mown a)) (oB (Nat.blt c 6) (oB (Nat.ble (mcat rest) 8) (some (.inr (.inr (a, .ref r :: as, (pc + 3, loc, rest, hs, nc, ns)))))))) → False := by
      intro F h1 h2
      rw [h2] at h1
      obtain ⟨as, st, -, hx1⟩ := oP_inv h1
      obtain ⟨r, st, -, hx2⟩ := tR_inv hx1
      obtain ⟨c', vs, -, hx3⟩ := hO_inv hx2
      obtain ⟨-, hx4⟩ := oB_inv hx3
      obtain ⟨-, hx5⟩ := oB_inv hx4
      obtain ⟨-, hx6⟩ := oB_inv hx5
      cases hx6
    obtain ⟨adV, hZ⟩ := hro.1
    match b, hk, hx with
    | 0, _, hx => exact (other _ hx rfl).elim
    | 1, _, hx => exact (other _ hx rfl).elim
    | 2, _, hx => exact (other _ hx rfl).elim
    | 3, _, hx => exact (other _ hx rfl).elim
    | 4, _, hx => exact (other _ hx rfl).elim
    | 5, _, hx => exact (other _ hx rfl).elim
    | 6, _, hx => exact (other _ hx rfl).elim
    | 7, _, hx => exact (other _ hx rfl).elim
    | 8, hk, hx =>
      obtain ⟨r, st, e0, hx1⟩ := tR_inv hx
      subst e0
      obtain ⟨h1, hx2⟩ := oB_inv hx1
      obtain ⟨h2, hx3⟩ := oB_inv hx2
      obtain ⟨h6, hx4⟩ := oB_inv hx3
      obtain rfl := mgo_inv hx4
      exact s_slen C hst hSs hBA hZ hl.1 hR5 hd (many3 hk) (Nat.le_of_ble_eq_true h1) (lt_of_blt h2) h6 hc1 hs1 (fun locs' h' => k _ _ _ h' hl)
    | 9, hk, hx =>
      obtain ⟨x, st, e0, hx0⟩ := tI_inv hx
      subst e0
      obtain ⟨r, st, e0, hx1⟩ := tR_inv hx0
      subst e0
      obtain ⟨h1, hx2⟩ := oB_inv hx1
      obtain ⟨h2, hx3⟩ := oB_inv hx2
      obtain ⟨h6, hx4⟩ := oB_inv hx3
      obtain ⟨j, hj, hx5⟩ := oI_inv hx4
      obtain rfl := mgo_inv hx5
      exact s_char C hst hSs hBA hZ hl.1 hR5 hd (many3 hk) (Nat.le_of_ble_eq_true h1) (lt_of_blt h2) hj h6 hc1 hs1 (fun locs' h' => k _ _ _ h' hl)
    | n + 10, _, hx => exact (other _ hx rfl).elim
  | invokestatic i =>
    obtain rfl := mlen1 (n := 3) hk
    have hk := mlen2 hk
    have other : ∀ F : Option mO, F = some (.inl q) → F = (oP (marg a) stk fun as rest => oB (Nat.ble (mcat rest) 8) (some (.inr (.inr (a, as, (pc + 3, loc, rest, hs, nc, ns)))))) → False := by
      intro F h1 h2
      rw [h2] at h1
      obtain ⟨as, rest, -, hx⟩ := oP_inv h1
      obtain ⟨-, hx1⟩ := oB_inv hx
      cases hx1
    match b, hk, hx with
    | 0, _, hx => exact (other _ hx rfl).elim
    | 1, _, hx => exact (other _ hx rfl).elim
    | 2, _, hx => exact (other _ hx rfl).elim
    | 3, _, hx => exact (other _ hx rfl).elim
    | 4, hk, hx =>
      obtain ⟨n, st, e0, hx2⟩ := tI_inv hx
      subst e0
      obtain ⟨dp, st, e0, hx3⟩ := tI_inv hx2
      subst e0
      obtain ⟨d, st, e0, hx4⟩ := tR_inv hx3
      subst e0
      obtain ⟨g3, hx5⟩ := oB_inv hx4
      have g3 := Nat.le_of_ble_eq_true g3
      obtain ⟨sp, st, e0, hx6⟩ := tI_inv hx5
      subst e0
      obtain ⟨r, st, e0, hx7⟩ := tR_inv hx6
      subst e0
      obtain ⟨g4, hx7b⟩ := oB_inv hx7
      have g4 := Nat.le_of_ble_eq_true g4
      obtain ⟨k1, xs, hr, hx8⟩ := hA_inv hx7b
      obtain ⟨k2, ys, hr2, hx9⟩ := hA_inv hx8
      obtain ⟨e1, hx10⟩ := oB_inv hx9
      obtain ⟨e2, hx11⟩ := oB_inv hx10
      obtain ⟨h1, hx12⟩ := oN_inv hx11
      obtain ⟨h2, hx13⟩ := oN_inv hx12
      obtain ⟨h3, hx14⟩ := oN_inv hx13
      obtain ⟨h4, hx15⟩ := oB_inv hx14
      obtain ⟨h5, hx16⟩ := oB_inv hx15
      obtain ⟨h6, hx17⟩ := oB_inv hx16
      obtain rfl := mgo_inv hx17
      have e1 := beqN e1
      have e2 := beqN e2
      subst e1
      subst e2
      exact s_copy C hst hl.1 hd (many2 hk) g4 g3 hr hr2 h1 h2 h3 (Nat.le_of_ble_eq_true h4) (Nat.le_of_ble_eq_true h5) (catN h6) hR (fun H' locs' h' => k _ _ _ h' hl)
    | 5, hk, hx =>
      obtain ⟨v, st, e0, hx18⟩ := tI_inv hx
      subst e0
      obtain ⟨u, st, e0, hx19⟩ := tI_inv hx18
      subst e0
      obtain ⟨h6, hx20⟩ := oB_inv hx19
      obtain rfl := mgo_inv hx20
      exact va_mmin hX hB hls hown (hts _ (hwMin (many2 hk))) (hts _ (mB_in 9 rfl)) (hts _ (mB_in 8 rfl)) (hts _ (mB_in 12 rfl)) hR.1 (by have := catN (ad := ad) h6; omega) hc1 hs1 hd (k _ _ _ hst hl)
    | 6, hk, hx =>
      obtain ⟨v, st, e0, hx21⟩ := tI_inv hx
      subst e0
      obtain ⟨u, st, e0, hx22⟩ := tI_inv hx21
      subst e0
      obtain ⟨h6, hx23⟩ := oB_inv hx22
      obtain rfl := mgo_inv hx23
      exact va_mmax hX hB hls hown (hts _ (hwMax (many2 hk))) (hts _ (mB_in 10 rfl)) (hts _ (mB_in 8 rfl)) (hts _ (mB_in 13 rfl)) hR.1 (by have := catN (ad := ad) h6; omega) hc1 hs1 hd (k _ _ _ hst hl)
    | 7, hk, hx =>
      obtain ⟨v, st, e0, hx24⟩ := tL_inv hx
      subst e0
      obtain ⟨u, st, e0, hx25⟩ := tL_inv hx24
      subst e0
      obtain ⟨h6, hx26⟩ := oB_inv hx25
      obtain rfl := mgo_inv hx26
      exact va_mmax_long hX hB hls hown (hts _ (hwMaxL (many2 hk))) (hts _ (mB_in 11 rfl)) (hts _ (mB_in 8 rfl)) (hts _ (mB_in 14 rfl)) hR.1 (by have := catN (ad := ad) h6; omega) hc1 hs1 hd (k _ _ _ hst hl)
    | n + 8, _, hx => exact (other _ hx rfl).elim
  | invokespecial i =>
    obtain rfl := mlen1 (n := 3) hk
    have hk := mlen2 hk
    have other : ∀ F : Option mO, F = some (.inl q) → F = (oP (marg a) stk fun as st => tR st fun r rest => oB (Nat.ble (mcat rest) 8) (some (.inr (.inr (a, .ref r :: as, (pc + 3, loc, rest, hs, nc, ns)))))) → False := by
      intro F h1 h2
      rw [h2] at h1
      obtain ⟨as, rest, -, hx⟩ := oP_inv h1
      obtain ⟨r, st, -, hx1⟩ := tR_inv hx
      obtain ⟨-, hx2⟩ := oB_inv hx1
      cases hx2
    match b, hk, hx with
    | 0, _, hx => exact (other _ hx rfl).elim
    | 1, _, hx => exact (other _ hx rfl).elim
    | 2, hk, hx =>
      obtain ⟨r, st, e0, hx3⟩ := tR_inv hx
      subst e0
      obtain ⟨h6, hx4⟩ := oB_inv hx3
      obtain rfl := mgo_inv hx4
      exact W.objInit hX hB hown (hts _ (hwO (many2 hk))) (hts _ (mB_in 3 rfl)) (hts _ (mB_in 4 rfl)) rfl hls.symm rfl hd hR.1 (by have := catN (ad := ad) h6; show 2 * 0 + _ + 12 ≤ _; omega) (k _ _ _ hst hl)
    | n + 3, _, hx => exact (other _ hx rfl).elim
  | return_ =>
    obtain ⟨-, hx1⟩ := tE_inv hx
    obtain ⟨-, hx2⟩ := oB_inv hx1
    cases hx2
  | ireturn =>
    obtain ⟨x, st, -, hx1⟩ := tI_inv hx
    obtain ⟨-, hx2⟩ := tE_inv hx1
    split at hx2
    · cases hx2
    · obtain ⟨-, hx3⟩ := oB_inv hx2
      cases hx3
    · cases hx2
  | lreturn =>
    obtain ⟨x, st, -, hx1⟩ := tL_inv hx
    obtain ⟨-, hx2⟩ := tE_inv hx1
    obtain ⟨-, hx3⟩ := oB_inv hx2
    cases hx3
  | areturn =>
    obtain ⟨x, st, -, hx1⟩ := tR_inv hx
    obtain ⟨-, hx2⟩ := tE_inv hx1
    split at hx2
    · cases hx2
    · cases hx2
  | _ => exact absurd (show (none : Option mO) = some (.inl q) from hx) (fun w => by cases w)
end SIM
