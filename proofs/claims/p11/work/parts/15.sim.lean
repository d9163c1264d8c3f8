section SIM
variable {p : Program} {l : Launch} {e : Env} {R : Room} {s : State} {m : MethodId} {args : Array Value} {below : List Frame} {meth : Method} {c : Code} {H : Heap} {locs : List Loc} {nc ns : Nat} {Q : State → Prop}
variable {D : va_G} {tc : Nat → ClassId} {ad : Nat → Nat} {A : Nat → Prop} {scr : List Int32} {H0 : Heap} {y pc : Nat} {hs : mH} {ls : Array Slot} {st : List Value}
theorem cE_refs {a : Nat} {vs : List Value} (h : ¬ a < 6) : cE tc ad (.inr (a, vs)) = .inl (tc (a - 4), vs.length, .inr (.inr (.inr (.inr (fun j => cF ad (vs.getD j .null)))))) := by
  show (bif Nat.blt a 6 then _ else _) = _
  have : Nat.blt a 6 = false := by
    cases q : Nat.blt a 6 with
    | false => rfl
    | true => exact absurd (lt_of_blt q) h
  rw [this]; rfl
theorem s_aald (C : mCtx p s m args meth c y D tc) (hst : mSt D tc ad A scr H0 hs H locs) {r j a v : Nat} {vs : List Value} {i : Int32} (hd : decode (mbytes y) pc = .ok (.aaload, 1)) (hr : hs[r]? = some (.inr (a, vs))) (ha : a = 7 ∨ a = 8) (hi : midx i vs.length = some j) (hv : vs[j]? = some (.ref v))
    (k : W p l e R s m args below meth c H locs nc ns Q (F0 m (pc + 1) ls (.ref (ad v) :: st))) : W p l e R s m args below meth c H locs nc ns Q (F0 m pc ls (.int i :: .ref (ad r) :: st)) := by
  obtain ⟨hx, hb', -, -, -, hK, -, -⟩ := C
  obtain ⟨h1, rfl, -⟩ := midx_inv hi
  have he := cX_get (tc := tc) (ad := ad) (hst.obj hr) hr
  rw [cE_refs (by omega)] at he
  have e : va_rf (cF ad (vs.getD i.toNatClampNeg .null)) = .ref (ad v) := by rw [List.getD_eq_getElem?_getD, hv]; rfl
  rcases ha with rfl | rfl
  · exact va_aldq (C := RX1) hx hb' hK hst.1 (r - mn0) 3 he rfl h1 hd (by rw [e]; exact k)
  · exact va_aldq (C := RX2) hx hb' hK hst.1 (r - mn0) 4 he rfl h1 hd (by rw [e]; exact k)
theorem upd_refs (ad : Nat → Nat) (vs : List Value) (k v : Nat) (hk : k < vs.length) : (fun j => va_rf (cF ad ((vs.set k (.ref v)).getD j .null))) = updV (fun j => va_rf (cF ad (vs.getD j .null))) k (.ref (ad v)) := by
  funext j
  by_cases e : j = k
  · subst e
    simp [updV, List.getD_eq_getElem?_getD, hk, cF, va_rf]
  · simp [updV, e, List.getD_eq_getElem?_getD, List.getElem?_set, Ne.symm e]
theorem s_aast (C : mCtx p s m args meth c y D tc) (hst : mSt D tc ad A scr H0 hs H locs) {r j a v cv : Nat} {vs ws : List Value} {i : Int32} (hd : decode (mbytes y) pc = .ok (.aastore, 1)) (h3 : mn0 ≤ r) (hr : hs[r]? = some (.inr (a, vs))) (hv : hs[v]? = some (.inr (cv, ws))) (ha : (a = 7 ∧ cv = 1) ∨ (a = 8 ∧ cv = 2)) (hi : midx i vs.length = some j)
    (k : ∀ H' locs', mSt D tc ad A scr H0 (hs.set r (.inr (a, vs.set j (.ref v)))) H' locs' → W p l e R s m args below meth c H' locs' nc ns Q (F0 m (pc + 1) ls st)) : W p l e R s m args below meth c H locs nc ns Q (F0 m pc ls (.ref (ad v) :: .int i :: .ref (ad r) :: st)) := by
  obtain ⟨hx, hb', -, -, -, hK, -, -⟩ := C
  obtain ⟨h1, rfl, hj⟩ := midx_inv hi
  have h0 : ¬ i < 0 := fun q => h1 (Or.inl q)
  have he := cX_get (tc := tc) (ad := ad) h3 hr
  have hev := cX_get (tc := tc) (ad := ad) (hst.obj hv) hv
  have hcv : cv < 6 := by omega
  rw [cE_refs (by omega)] at he
  rw [cE_obj hcv] at hev
  obtain ⟨r', hr', cellV, g1, g2, g3, -⟩ := hst.1 (v - mn0) _ hev
  have hcls := (hK.1 cv _ (vw_get hcv)).2
  have hcell : H[ad r]? = some (arrV (tc (a - 4)) vs.length (fun j => va_rf (cF ad (vs.getD j .null)))) := hst.1 (r - mn0) _ he
  obtain ⟨t0, ht⟩ : ∃ t0, (mtys tc)[t0]? = some (tc (a - 4), FieldType.object (mR cv)) := by
    rcases ha with ⟨rfl, rfl⟩ | ⟨rfl, rfl⟩
    · exact ⟨3, rfl⟩
    · exact ⟨4, rfl⟩
  obtain ⟨kA, comp, k1, k2, k3, -⟩ := (hK.2 t0 _ ht).2
  have hcomp : comp = D.1 cv := Option.some.inj (k3.symm.trans hcls.1)
  subst hcomp
  obtain ⟨kC, hkC, -⟩ := hcls.2
  refine W.aast hx hb' hcell (fun q h => by cases h) (fun h => by cases h) k1 k2 rfl hkC ⟨h0, by rw [arrV_size]; exact hj⟩ g1 (fun q h => by rw [g3] at h; cases h) (by rw [g2]; exact hkC) (by rw [g2]; exact va_assign hcls) rfl rfl hd fun H1 e1 z oq => ?_
  refine k H1 _ (hst.put h3 hr ?_ z oq)
  rw [cE_refs (by omega)]
  show H1[ad r]? = some (arrV (tc (a - 4)) (vs.set i.toNatClampNeg (.ref v)).length (fun j => va_rf (cF ad ((vs.set i.toNatClampNeg (.ref v)).getD j .null))))
  rw [e1, arrV_store, List.length_set, upd_refs ad vs _ v hj]
theorem cV_def (t : FieldType) : cV ad (defaultValue t) = defaultValue t := by cases t <;> rfl
theorem s_new (C : mCtx p s m args meth c y D tc) (hst : mSt D tc ad A scr H0 hs H locs) {idx a : Nat} (hd : decode (mbytes y) pc = .ok (.new idx, 3)) (hl : (mown y, idx, a) ∈ mlC) (ha : a < 6) (hc1 : nc + 1 ≤ R.cells) (hs1 : ns + mN a ≤ R.slots)
    (k : ∀ H', mSt D tc ad A scr H0 (hs ++ [.inr (a, mnew a)]) H' locs → W p l e R s m args below meth c H' locs (nc + 1) (ns + mN a) Q (F0 m (pc + 3) ls (.ref (ad hs.length) :: st))) : W p l e R s m args below meth c H locs nc ns Q (F0 m pc ls st) := by
  obtain ⟨hx, hb', -, hown, hts, hK, -, -⟩ := C
  have hc := vw_get ha
  have hKn := hK.1 a _ hc
  refine W.newcK hx hb' hown (hts _ (hwC hl)) (hts _ (hwIns ha)) (hts _ (hwIni (c := a) (by omega))) rfl hd hc1 hs1 hKn.2.1 rfl fun H1 kC hkC e1 z1 o1 => ?_
  have hz : ad hs.length = H.size := by rw [hst.2.2.2.1 _ (Nat.le_refl _)]; omega
  have k1 := k H1 (hst.new ?_ z1 o1)
  · rw [hz] at k1; exact k1
  · rw [cE_obj ha]
    refine ⟨_, hc, (u_born (mty a) hts (mK_in ha) hKn hkC e1 (mty_ok ha)).to (fun j hj => ?_)⟩
    simp only [mnew, vp_V, List.map_map, List.getD_eq_getElem?_getD, List.getElem?_map, List.getElem?_range hj, Option.map_some, Function.comp_apply, cV_def, Option.getD_some]
theorem tc_arr {t0 : Nat} {ty : FieldType} {cA : ClassId} (hK : va_K D vwCl (mtys tc) s) (ht : (mtys tc)[t0]? = some (tc t0, ty)) (hp : ∀ C, ty ≠ .object C) (h : s.vm.findClass ("[" ++ ty.toString) = some cA) : cA = tc t0 := by
  have h2 := (hK.2 t0 _ ht).2
  have h3 : s.vm.findClass ("[" ++ ty.toString) = some (tc t0) := by
    cases ty with
    | object C => exact absurd rfl (hp C)
    | _ => exact h2
  exact Option.some.inj (h.symm.trans h3)
theorem s_newa (C : mCtx p s m args meth c y D tc) (hst : mSt D tc ad A scr H0 hs H locs) {t : ArrayType} {kd : Nat} {n : Int32} (hd : decode (mbytes y) pc = .ok (.newarray t, 2)) (ht : mak t = some kd) (h0 : ¬ n < 0) (hn : n.toNatClampNeg ≤ 10000) (hc1 : nc + 1 ≤ R.cells) (hs1 : ns + n.toNatClampNeg ≤ R.slots)
    (k : ∀ H', mSt D tc ad A scr H0 (hs ++ [.inl (kd, List.replicate n.toNatClampNeg 0)]) H' locs → W p l e R s m args below meth c H' locs (nc + 1) (ns + n.toNatClampNeg) Q (F0 m (pc + 2) ls (.ref (ad hs.length) :: st))) : W p l e R s m args below meth c H locs nc ns Q (F0 m pc ls (.int n :: st)) := by
  obtain ⟨hx, hb', -, hown, hts, hK, -, -⟩ := C
  have hz : ad hs.length = H.size := by rw [hst.2.2.2.1 _ (Nat.le_refl _)]; omega
  have key : (Cond.arrayClass (newarray.typeOf t)).before args s = true ∧ componentBytes (newarray.typeOf t) ≤ 4 ∧ defaultValue (newarray.typeOf t) = .int 0 ∧ (mtys tc)[kd]? = some (tc kd, newarray.typeOf t) ∧ ∀ C, newarray.typeOf t ≠ .object C := by
    cases t <;> simp only [mak, Option.some.injEq, reduceCtorEq] at ht <;> subst ht
    · exact ⟨hts _ (mB_in 2 rfl), by decide, rfl, rfl, fun C h => by cases h⟩
    · exact ⟨hts _ (mB_in 1 rfl), by decide, rfl, rfl, fun C h => by cases h⟩
    · exact ⟨hts _ (mB_in 0 rfl), by decide, rfl, rfl, fun C h => by cases h⟩
  obtain ⟨harr, hcb, hdv, htt, hno⟩ := key
  refine va_newaK hx hb' harr rfl hd rfl h0 rfl (Nat.le_trans (Nat.mul_le_mul hn hcb) (by decide)) hc1 hs1 rfl fun H1 cA e1 z1 o1 hAr hNm => ?_
  have hcA := tc_arr hK htt hno hNm
  have k1 := k H1 (hst.new ?_ z1 o1)
  · rw [hz] at k1; exact k1
  · show H1[H.size]? = some (arrV (tc kd) (List.replicate n.toNatClampNeg (0 : Int32)).length (fun j => .int ((List.replicate n.toNatClampNeg (0 : Int32)).getD j 0)))
    rw [e1, hcA, hdv, List.length_replicate]
    congr 2
    funext j
    rw [List.getD_eq_getElem?_getD, List.getElem?_replicate]
    split <;> rfl
theorem s_anew (C : mCtx p s m args meth c y D tc) (hst : mSt D tc ad A scr H0 hs H locs) {idx a : Nat} {n : Int32} (hd : decode (mbytes y) pc = .ok (.anewarray idx, 3)) (hl : (mown y, idx, a) ∈ mlC) (ha : a = 1 ∨ a = 2) (h0 : ¬ n < 0) (hn : n.toNatClampNeg ≤ 10000) (hc1 : nc + 1 ≤ R.cells) (hs1 : ns + n.toNatClampNeg ≤ R.slots)
    (k : ∀ H', mSt D tc ad A scr H0 (hs ++ [.inr (6 + a, List.replicate n.toNatClampNeg .null)]) H' locs → W p l e R s m args below meth c H' locs (nc + 1) (ns + n.toNatClampNeg) Q (F0 m (pc + 3) ls (.ref (ad hs.length) :: st))) : W p l e R s m args below meth c H locs nc ns Q (F0 m pc ls (.int n :: st)) := by
  obtain ⟨hx, hb', -, hown, hts, hK, hN, -⟩ := C
  have hz : ad hs.length = H.size := by rw [hst.2.2.2.1 _ (Nat.le_refl _)]; omega
  have hov : va_AO (mR a) s := by
    rcases ha with rfl | rfl
    · exact hN.2.1
    · exact hN.2.2
  have htt : (mtys tc)[a + 2]? = some (tc (a + 2), .object (mR a)) := by
    rcases ha with rfl | rfl <;> rfl
  refine W.anew hx hb' hown (hts _ (hwC hl)) (va_AO.use hov) rfl hd rfl h0 (by omega) hc1 hs1 fun cA kA comp f1 f2 f3 f4 => ?_
  obtain ⟨kA', comp', k1, k2, k3, k4⟩ := (hK.2 (a + 2) _ htt).2
  have hcA : cA = tc (a + 2) := Option.some.inj (f1.symm.trans k4)
  subst hcA
  have k1 := k (H.push { cls := tc (a + 2), slots := Array.replicate n.toNatClampNeg .null, vm := .none }) (hst.new ?_ (by rw [Array.size_push]) (fun q hq => by rw [Array.getElem?_push, if_neg (Nat.ne_of_lt hq)]))
  · rw [hz] at k1; exact k1
  · rw [cE_refs (by omega)]
    show (H.push _)[H.size]? = some (arrV (tc (6 + a - 4)) (List.replicate n.toNatClampNeg Value.null).length (fun j => va_rf (cF ad ((List.replicate n.toNatClampNeg Value.null).getD j .null))))
    rw [Array.getElem?_push_size, show 6 + a - 4 = a + 2 by omega, List.length_replicate]
    have e1 : (fun j => va_rf (cF ad ((List.replicate n.toNatClampNeg Value.null).getD j .null))) = fun _ => Value.null := by
      funext j
      rw [List.getD_eq_getElem?_getD, List.getElem?_replicate]
      split <;> rfl
    rw [e1, ← arrV_new]
theorem mcpy_get (xs ys : List Int32) (sp dp n : Nat) (h1 : sp + n ≤ xs.length) (h2 : dp + n ≤ ys.length) : (mcpy xs ys sp dp n).length = ys.length ∧ ∀ j, (mcpy xs ys sp dp n).getD j 0 = va_cpy (fun j => xs.getD j 0) (fun j => ys.getD j 0) sp dp n j := by
  have l1 : (ys.take dp).length = dp := by rw [List.length_take]; omega
  have l2 : ((xs.drop sp).take n).length = n := by rw [List.length_take, List.length_drop]; omega
  refine ⟨by simp only [mcpy, List.length_append, l1, l2, List.length_drop]; omega, fun j => ?_⟩
  simp only [mcpy, va_cpy, List.getD_eq_getElem?_getD]
  by_cases hj : j < dp
  · rw [List.getElem?_append_left (by omega), List.getElem?_take, if_pos hj, if_neg (by omega)]
  · rw [List.getElem?_append_right (by omega), l1]
    by_cases hj2 : j < dp + n
    · rw [List.getElem?_append_left (by omega), List.getElem?_take, if_pos (by omega), List.getElem?_drop, if_pos (by omega)]
    · rw [List.getElem?_append_right (by omega), l2, List.getElem?_drop, if_neg (by omega), show dp + n + (j - dp - n) = j by omega]
theorem mSt.putL {H1 : Heap} {locs1 : List Loc} {r : Nat} {x0 x : mE} (h : mSt D tc ad A scr H0 hs H locs) (h3 : mn0 ≤ r) (hr : hs[r]? = some x0)
    (he : va_at D vwCl (ad r, cE tc ad x) H1) (z : H1.size = H.size) (oq : ∀ q : Nat, q ≠ ad r → H1[q]? = H[q]?) (hL : ∀ q ∈ locs1, q ∈ locs ∨ q.base = ad r) : mSt D tc ad A scr H0 (hs.set r x) H1 locs1 := by
  obtain ⟨h1, h2, hS3, h4⟩ := h.put (k := 0) h3 hr he z oq
  refine ⟨h1, h2, ⟨hS3.1, hS3.2.1, fun q hq => ?_⟩, h4⟩
  rcases hL q hq with w | w
  · exact h.2.2.1.2.2 q w
  · rw [w]; exact h.2.2.2.2.1 r h3
theorem s_copy (C : mCtx p s m args meth c y D tc) (hst : mSt D tc ad A scr H0 hs H locs) (hl : ls.size = mmaxL y) {idx r d : Nat} {xs ys : List Int32} {sp dp n : Int32} (hd : decode (mbytes y) pc = .ok (.invokestatic idx, 3)) (hlk : (mown y, idx) ∈ mlA) (h8 : mn0 ≤ r) (h9 : mn0 ≤ d) (hr : hs[r]? = some (.inl (0, xs))) (hr2 : hs[d]? = some (.inl (0, ys)))
    (h1 : ¬ sp < 0) (h2 : ¬ dp < 0) (h3 : ¬ n < 0) (h4 : sp.toNatClampNeg + n.toNatClampNeg ≤ xs.length) (h5 : dp.toNatClampNeg + n.toNatClampNeg ≤ ys.length) (hcat : (st.map fun v => v.category).sum ≤ 8) (hR : 1 ≤ R.frames ∧ 40 ≤ R.locals)
    (k : ∀ H' locs', mSt D tc ad A scr H0 (hs.set d (.inl (0, mcpy xs ys sp.toNatClampNeg dp.toNatClampNeg n.toNatClampNeg))) H' locs' → W p l e R s m args below meth c H' locs' nc ns Q (F0 m (pc + 3) ls st)) : W p l e R s m args below meth c H locs nc ns Q (F0 m pc ls (.int n :: .int dp :: .ref (ad d) :: .int sp :: .ref (ad r) :: st)) := by
  obtain ⟨hx, hb', hml, hown, hts, hK, -, -⟩ := C
  have nn : ∀ z : Int32, ¬ z < 0 → z.toInt = (z.toNatClampNeg : Int) := by
    intro z hz
    have hz0 : (0 : Int) ≤ z.toInt := by simpa using Int32.le_iff_toInt_le.mp (Int32.not_lt.mp hz)
    show z.toInt = ((z.toInt.toNat : Nat) : Int)
    omega
  have hc0 : H[ad r]? = some (arrV (tc 0) xs.length (fun j => .int (xs.getD j 0))) := hst.1 (r - mn0) _ (cX_get (tc := tc) (ad := ad) h8 hr)
  have hc1 : H[ad d]? = some (arrV (tc 0) ys.length (fun j => .int (ys.getD j 0))) := hst.1 (d - mn0) _ (cX_get (tc := tc) (ad := ad) h9 hr2)
  obtain ⟨-, k0, hk0, cm0, hkk0⟩ := (hK.2 0 _ rfl).1 xs.length (fun j => .int (xs.getD j 0))
  obtain ⟨-, k1, hk1, cm1, hkk1⟩ := (hK.2 0 _ rfl).1 ys.length (fun j => .int (ys.getD j 0))
  obtain ⟨m1, m2⟩ := mcpy_get xs ys sp.toNatClampNeg dp.toNatClampNeg n.toNatClampNeg h4 h5
  have e1 : copied (arrV (tc 0) xs.length (fun j => .int (xs.getD j 0))) (arrV (tc 0) ys.length (fun j => .int (ys.getD j 0))) sp dp n = arrV (tc 0) ys.length (fun j => .int ((mcpy xs ys sp.toNatClampNeg dp.toNatClampNeg n.toNatClampNeg).getD j 0)) := by
    refine (va_copied (fun z => Value.int z) (tc 0) (tc 0) (fun j => xs.getD j 0) (fun j => ys.getD j 0) h4).trans ?_
    congr 1
    funext j
    rw [m2 j]
  intro T hT X
  obtain ⟨vm', X', step⟩ := X.arraycopy hx hown (hts _ (hwA hlk)) (hts _ (mB_in 5 rfl)) (hts _ (mB_in 6 rfl)) (hts _ (mB_in 7 rfl)) (srcPos := sp) (destPos := dp) (n := n) (by rw [hT]; exact hc0) (by rw [hT]; exact hc1)
    (fun _ h => by cases h) (fun _ h => by cases h) (fun h => by cases h) (fun h => by cases h) hk0 hk1 hkk0 hkk1 (by rfl) h1 h2 h3
    (by rw [nn sp h1, nn n h3, arrV_size]; omega) (by rw [nn dp h2, nn n h3, arrV_size]; omega)
    (fun vm₁ _ i hi => by
      have e : (arrV (tc 0) xs.length (fun j => Value.int (xs.getD j 0))).slots.getD (sp.toNatClampNeg + i) .null = .int (xs.getD (sp.toNatClampNeg + i) 0) := by
        rw [Array.getD_eq_getD_getElem?, arrV_read _ _ (by omega)]
        rfl
      rw [e]
      exact ⟨rfl, trivial⟩)
    (g := F0 m pc ls (.int n :: .int dp :: .ref (ad d) :: .int sp :: .ref (ad r) :: st)) rfl (by rw [hml]; exact hl) (rest := st) rfl (by rw [hb']; exact hd) hR.1
    (by show 2 * 0 + _ + (5 + 2 + 11) ≤ _; omega)
  rw [e1] at X' step
  have hl : ad d < H.size := (Array.getElem?_eq_some_iff.mp hc1).1
  have oq : ∀ q : Nat, q ≠ ad d → (H.setIfInBounds (ad d) (arrV (tc 0) ys.length (fun j => .int ((mcpy xs ys sp.toNatClampNeg dp.toNatClampNeg n.toNatClampNeg).getD j 0))))[q]? = H[q]? := fun q hq => by simp [Array.getElem?_setIfInBounds, Ne.symm hq]
  obtain ⟨t, a1, b1⟩ := k (H.setIfInBounds (ad d) (arrV (tc 0) ys.length (fun j => .int ((mcpy xs ys sp.toNatClampNeg dp.toNatClampNeg n.toNatClampNeg).getD j 0)))) _ (hst.putL h9 hr2 (by
      show (H.setIfInBounds (ad d) _)[ad d]? = some (arrV (tc 0) (mcpy xs ys sp.toNatClampNeg dp.toNatClampNeg n.toNatClampNeg).length (fun j => .int ((mcpy xs ys sp.toNatClampNeg dp.toNatClampNeg n.toNatClampNeg).getD j 0)))
      rw [m1]
      simp [Array.getElem?_setIfInBounds, hl]) (by simp) oq (fun q hq => by
      rcases List.mem_append.mp hq with h | h
      · exact Or.inl h
      · obtain ⟨z, -, hz⟩ := List.mem_map.mp h
        rw [← hz]
        exact Or.inr rfl)) _ (by rw [← hT]; rfl) X'
  exact ⟨t, step t a1, b1⟩
end SIM
