/-! calls, returns: what the mini machine runs, the machine runs -/
theorem mmB_at {y : Nat} (h : y < 184) : mmB y = true := List.all_eq_true.mp mm_ok y (List.mem_range.mpr h)
theorem mmax_ok : (List.range 185).all (fun y => Nat.ble (mmaxL y) 50) = true := by decide +kernel
theorem mmax_le {y : Nat} (h : y < 185) : mmaxL y ≤ 50 := Nat.le_of_ble_eq_true (List.all_eq_true.mp mmax_ok y (List.mem_range.mpr h))
theorem any_mem {y : Nat} {l : List Nat} (h : l.any (Nat.beq y) = true) : y ∈ l := by
  obtain ⟨q, h1, h2⟩ := List.any_eq_true.mp h
  rw [beqN h2]; exact h1
theorem hwCode {y : Nat} (h : y ∈ moCode) : Cond.code (mname y) (mbytes y) (mmaxL y) (mret y) ∈ mgood :=
  mem_good (mpick_mem mgaps lw_tbl _ (moCode_ok ▸ List.mem_map_of_mem (f := fun y => Cond.code (mname y) (mbytes y) (mmaxL y) (mret y)) h)) rfl
theorem hwInst {y : Nat} (h : y ∈ moInst) : Cond.instanceMethod (mname y) ∈ mgood := mem_good (msub_mem _ _ moInst_ok _ (List.mem_map_of_mem (f := fun y => Cond.instanceMethod (mname y)) h)) rfl
theorem hwStat {y : Nat} (h : y ∈ moStat) : Cond.static (mname y) ∈ mgood := mem_good (msub_mem _ _ moStat_ok _ (List.mem_map_of_mem (f := fun y => Cond.static (mname y)) h)) rfl
theorem hwSel {y : Nat} (h : y ∈ moSel) : Cond.selects (mname y).cls (mname y) (mname y) ∈ mgood := mem_good (msub_mem _ _ moSel_ok _ (List.mem_map_of_mem (f := fun y => Cond.selects (mname y).cls (mname y) (mname y)) h)) rfl
def mWs (y : Nat) : List Cond := Cond.code (mname y) (mbytes y) (mmaxL y) (mret y) :: mgood
theorem mWs_good {y : Nat} (h : y ∈ moCode) : GoodIn mgood (mWs y) := fun w hw => by
  rcases List.mem_cons.mp hw with q | q
  · rw [q]; exact mgood_self _ (hwCode h)
  · exact mgood_self _ q
def mRm (d mc ms : Nat) : Room := { frames := d + 5, cells := mc, slots := ms, locals := 360 + 80 * d }
def mPc (D : va_G) (tc : Nat → ClassId) (ad : Nat → Nat) (B : Nat) (scr : List Int32) (as : List Value) (hs : mH) : Array Value → State → Prop :=
  va_Pc (as.map (cV ad)) (fun U => B ≤ U.heap.size ∧ mSt D tc ad (fun q => B ≤ q) scr U.heap hs U.heap [] ∧ va_K D vwCl (mtys tc) U ∧ mnest U ∧ mro ad (fun q => B ≤ q) U)
def mQc (D : va_G) (tc : Nat → ClassId) (ad : Nat → Nat) (B : Nat) (scr : List Int32) (r : Option Value) (hs : mH) : Array Value → State → Outcome → State → Prop :=
  fun _ st oc t => oc = .returned (r.map (cV ad)) ∧ mSt D tc ad (fun q => B ≤ q) scr st.heap hs t.heap []
theorem mSt.start {D : va_G} {tc : Nat → ClassId} {ad : Nat → Nat} {A : Nat → Prop} {scr : List Int32} {H0 H : Heap} {hs : mH} {locs : List Loc} (h : mSt D tc ad A scr H0 hs H locs) : mSt D tc ad A scr H hs H [] :=
  ⟨h.1, h.2.1, va_S.rf, h.2.2.2⟩
theorem mnest.warm {s U : State} (hW : s.WarmedH U.vm) (h : mnest s) : mnest U :=
  ⟨fun q hq => (h.1 q hq).warmM hW, h.2.1.moved hW.alike, h.2.2.moved hW.alike⟩
theorem mPc.blind {D : va_G} {tc : Nat → ClassId} {ad : Nat → Nat} {B : Nat} {scr : List Int32} {as : List Value} {hs : mH} : FrameBlind (mPc D tc ad B scr as hs) := by
  intro a U g mk q
  obtain ⟨q0, q1, q2, q3, q4, q5⟩ := q
  exact ⟨q0, q1, q2, va_K.moved (u := U) (U := U.calling g mk a) (Vm.Alike.refl U.vm) q3, ⟨fun z hz => va_Nw.same rfl rfl (q4.1 z hz), q4.2.1.moved (U := U.calling g mk a) (Vm.Alike.refl U.vm), q4.2.2.moved (U := U.calling g mk a) (Vm.Alike.refl U.vm)⟩, q5.same (U := U.calling g mk a) rfl rfl⟩
def mMet (l : Launch) (D : va_G) (tc : Nat → ClassId) (ad : Nat → Nat) (B : Nat) (scr : List Int32) (d y : Nat) (as : List Value) (hs : mH) (r : Option Value) (hs' : mH) (mc ms : Nat) : Prop :=
  Met l (mname y) (mWs y) (mRm d mc ms) (mPc D tc ad B scr as hs) (mQc D tc ad B scr r hs') mc ms (fun q => B ≤ q)
def mretI (y : Nat) (v : Option Value) (ins : Instr) : Prop :=
  (v = none ∧ ins = .return_ ∧ mret y = none) ∨ (∃ x, v = some (.int x) ∧ ins = .ireturn ∧ (mret y = some .int ∨ (mret y = some .boolean ∧ (x = 0 ∨ x = 1)))) ∨ (∃ x, v = some (.long x) ∧ ins = .lreturn ∧ mret y = some .long) ∨ ∃ x C, v = some (.ref x) ∧ ins = .areturn ∧ mret y = some (.object C)
section SND
variable {p : Program} {l : Launch} {e : Env} {R : Room} {s : State} {m : MethodId} {args : Array Value} {below : List Frame} {meth : Method} {c : Code} {H : Heap} {locs : List Loc} {nc ns : Nat} {Q : State → Prop}
variable {D : va_G} {tc : Nat → ClassId} {ad : Nat → Nat} {B : Nat} {scr : List Int32} {H0 : Heap} {y pc : Nat} {hs : mH} {ls : Array Slot}
/-- behind a call -/
theorem m_back {hs' : mH} {r : Option Value} {mc ms : Nat} {a : Array Value} {st0 rest : List Value} (hst : mSt D tc ad (fun q => B ≤ q) scr H0 hs H locs)
    (hr : va_Run p l e R s m args below meth c H locs nc ns mc ms (F0 m pc ls st0) rest (mQc D tc ad B scr r hs' a) (fun q => B ≤ q))
    (k : ∀ H' locs', mSt D tc ad (fun q => B ≤ q) scr H0 hs' H' locs' → W p l e R s m args below meth c H' locs' (nc + mc) (ns + ms) Q (F0 m (pc + 3) ls ((r.map (cV ad)).toList ++ rest))) : W p l e R s m args below meth c H locs nc ns Q (F0 m pc ls st0) := by
  intro T hT X
  obtain ⟨v, st₀, t, T', L, h0, X', hL, e1, e2, ⟨hv, hm⟩, st⟩ := hr T hT X
  cases hv
  obtain ⟨hP, hD, hS, ha, hw⟩ := hm
  have hS' : va_S (fun q => B ≤ q) H0 t.heap (locs ++ L) := by
    rw [h0] at hS
    refine ⟨Nat.le_trans hst.2.2.1.1 hS.1, fun q h1 h2 => ?_, fun q hq => ?_⟩
    · rw [hS.2.1 q (Nat.lt_of_lt_of_le h1 hst.2.2.1.1) h2]
      exact hst.2.2.1.2.1 q h1 h2
    · rcases List.mem_append.mp hq with h | h
      · exact hst.2.2.1.2.2 q h
      · exact hL q h
  obtain ⟨t2, a1, b1⟩ := k t.heap (locs ++ L) ⟨hP, hD, hS', ha, hw⟩ T' e1 X'
  exact ⟨t2, st t2 a1, b1⟩
theorem optmap {r : Option Value} {rest : List Value} : (r.toList ++ rest).map (cV ad) = (r.map (cV ad)).toList ++ rest.map (cV ad) := by
  cases r <;> rfl
theorem mpop_inv {n : Nat} {stk as rest : List Value} (h : mpop n stk = some (as, rest)) : stk = as.reverse ++ rest ∧ as.length = n := by
  unfold mpop at h
  cases q : Nat.ble n stk.length with
  | false => rw [q] at h; cases h
  | true =>
    rw [q, cond_true] at h
    have hn := Nat.le_of_ble_eq_true q
    cases h
    exact ⟨by rw [List.reverse_reverse, List.take_append_drop], by rw [List.length_reverse, List.length_take]; omega⟩
theorem cV_rev (as rest : List Value) : (as.reverse ++ rest).map (cV ad) = (as.map (cV ad)).reverse ++ rest.map (cV ad) := by
  rw [List.map_append, List.map_reverse]
theorem m_room {d mc ms a : Nat} (ha : a < 184) (hR : d + 6 ≤ R.frames ∧ 360 + 80 * (d + 1) ≤ R.locals) : (mRm d mc ms).frames + 1 ≤ R.frames ∧ 8 + (mmaxL a + 11) + (mRm d mc ms).locals ≤ R.locals := by
  have := mmax_le (y := a) (by omega)
  show d + 5 + 1 ≤ R.frames ∧ 8 + (mmaxL a + 11) + (360 + 80 * d) ≤ R.locals
  omega
theorem m_facts {a : Nat} (ha : a < 184) (hts : ∀ w ∈ mgood, w.before args s = true) : a ∈ moCode ∧ (mname a).cls = mR (mown a) ∧ (Cond.initialized (mname a).cls).before args s = true ∧ ((mname a).cls ≠ "java/lang/invoke/MethodHandle" ∧ (mname a).cls ≠ "java/lang/invoke/VarHandle" ∧ (parseMethodDescriptor (mname a).desc).map (fun d => d.parameters.length) = some (marg a)) ∧
      (mkd a = 0 → a ∈ moStat) ∧ (mkd a = 1 → a ∈ moInst ∧ a ∈ moSel) ∧ (mkd a = 2 → a ∈ moInst ∧ (mname a).name = "<init>" ∧ mret a = none) := by
  have h := mmB_at ha
  obtain ⟨h1, h⟩ := mand h
  obtain ⟨h2, h⟩ := mand h
  obtain ⟨h3, h⟩ := mand h
  obtain ⟨h4, h⟩ := mand h
  obtain ⟨h5, h⟩ := mand h
  obtain ⟨h6, h⟩ := mand h
  obtain ⟨h7, h⟩ := mand h
  have e5 : (mname a).cls = mR (mown a) := of_decide_eq_true h5
  refine ⟨any_mem h6, e5, ?_, ⟨of_decide_eq_true h3, of_decide_eq_true h4, of_decide_eq_true h1⟩, fun q => ?_, fun q => ?_, fun q => ?_⟩
  · rw [e5]
    exact hts _ (mem_good (msub_mem _ _ moIni_ok _ (List.mem_map_of_mem (f := fun o => Cond.initialized (mR o)) (any_mem h7))) rfl)
  · rw [q] at h; exact any_mem h
  · rw [q] at h; exact ⟨any_mem (mand h).1, any_mem (mand h).2⟩
  · rw [q] at h; exact ⟨any_mem (mand h).1, of_decide_eq_true (mand (mand h).2).1, of_decide_eq_true (mand (mand h).2).2⟩
theorem m_plain {a : Nat} (ha : a < 184) : plainName (mname a).cls = true := (mand (mand (mmB_at ha)).2).1
theorem m_key (C : mCtx p s m args meth c y D tc) (hst : mSt D tc ad (fun q => B ≤ q) scr H0 hs H locs) (hB0 : B ≤ H0.size) (hro : mro ad (fun q => B ≤ q) s) (hH0 : H0 = s.heap) {as : List Value} : ∀ U : State, U.heap = H → s.WarmedH U.vm → mPc D tc ad B scr as hs (as.map (cV ad)).toArray U := fun U hU hW =>
  ⟨rfl, by rw [hU]; exact Nat.le_trans hB0 hst.2.2.1.1, by rw [hU]; exact hst.start, va_K.moved hW.alike C.2.2.2.2.2.1, mnest.warm hW C.2.2.2.2.2.2.1, hro.on hW (by rw [← hH0]; exact hst.2.2.1) hU⟩
section CALLS
variable {idx a d mc ms : Nat} {as rest : List Value} {r : Option Value} {hs' : mH}
theorem m_callV (C : mCtx p s m args meth c y D tc) (hst : mSt D tc ad (fun q => B ≤ q) scr H0 hs H locs) (hB0 : B ≤ H0.size) (hro : mro ad (fun q => B ≤ q) s) (hH0 : H0 = s.heap) (hl : ls.size = mmaxL y) (hR : d + 6 ≤ R.frames ∧ 360 + 80 * (d + 1) ≤ R.locals) (hd : decode (mbytes y) pc = .ok (.invokevirtual idx, 3)) (ha : a < 184)
    {rr : Nat} {vs : List Value} (hM : mMet l D tc ad B scr d a (.ref rr :: as) hs r hs' mc ms) (hf : nc + mc ≤ R.cells ∧ ns + ms ≤ R.slots) (hlk : (mown y, idx, a) ∈ mlM) (hkd : mkd a = 1) (hn : as.length = marg a) (hcat : Nat.ble (mcat rest) 8 = true) (hr : hs[rr]? = some (.inr (mown a, vs))) (hc6 : mown a < 6)
    (k : ∀ H' locs', mSt D tc ad (fun q => B ≤ q) scr H0 hs' H' locs' → W p l e R s m args below meth c H' locs' (nc + mc) (ns + ms) Q (F0 m (pc + 3) ls ((r.map (cV ad)).toList ++ rest.map (cV ad)))) : W p l e R s m args below meth c H locs nc ns Q (F0 m pc ls ((as.map (cV ad)).reverse ++ .ref (ad rr) :: rest.map (cV ad))) := by
  have hkey := m_key (as := .ref rr :: as) C hst hB0 hro hH0
  obtain ⟨hX, hB, hml, hown, hts, hK, hN, -⟩ := C
  obtain ⟨f1, f2, f3, f4, -, f5, -⟩ := m_facts ha hts
  obtain ⟨f6, f7⟩ := f5 hkd
  have hlink : (Cond.methodLink (mR (mown y)) idx (mname a)).before args s = true := hts _ (hwM (q := (mown y, idx, a)) hlk)
  have cb := callB_of (R := R) (own := mR (mown y)) (index := idx) (y := mname a) (bytes := mbytes a) (maxL := mmaxL a) (ret := mret a) (ws := mWs a) (ws' := mgood) (rm := mRm d mc ms) (mc := mc) (ms := ms) (marg a) hts (mWs_good f1) rfl rfl rfl f3 hlink f4 (m_room ha hR)
  have hrecv : ∃ cellB : Cell, H[ad rr]? = some cellB ∧ cellB.vm.isStatics = false ∧ s.vm.findClass (mname a).cls = some cellB.cls := by
    have he := cX_get (tc := tc) (ad := ad) (hst.obj hr) hr
    rw [cE_obj hc6] at he
    obtain ⟨cell, w1, w2, w3⟩ := va_recv hK hst.1 (vw_get hc6) he
    exact ⟨cell, w1, w2, by rw [f2]; exact w3⟩
  have hM' : Met l (mname a) (mWs a) (mRm d mc ms) (mPc D tc ad B scr (.ref rr :: as) hs) (mQc D tc ad B scr r hs') mc ms (fun q => B ≤ q) := hM
  exact m_back hst (va_runV (S := ⟨hX, hB, hml, hown, hts⟩) hM' ⟨cb, hts _ (hwInst f6), hts _ (hwSel f7)⟩ ⟨mPc.blind, hrecv, hkey⟩ rfl (by rw [List.length_map]; exact hn) hl rfl (lv_room (catN hcat)) hd hf) k
theorem m_callS (C : mCtx p s m args meth c y D tc) (hst : mSt D tc ad (fun q => B ≤ q) scr H0 hs H locs) (hB0 : B ≤ H0.size) (hro : mro ad (fun q => B ≤ q) s) (hH0 : H0 = s.heap) (hl : ls.size = mmaxL y) (hR : d + 6 ≤ R.frames ∧ 360 + 80 * (d + 1) ≤ R.locals) (hd : decode (mbytes y) pc = .ok (.invokestatic idx, 3)) (ha : a < 184)
    (hM : mMet l D tc ad B scr d a as hs r hs' mc ms) (hf : nc + mc ≤ R.cells ∧ ns + ms ≤ R.slots) (hlk : (mown y, idx, a) ∈ mlM ∨ (mown y, idx, a) ∈ mlN) (hkd : mkd a = 0) (hn : as.length = marg a) (hcat : Nat.ble (mcat rest) 8 = true)
    (k : ∀ H' locs', mSt D tc ad (fun q => B ≤ q) scr H0 hs' H' locs' → W p l e R s m args below meth c H' locs' (nc + mc) (ns + ms) Q (F0 m (pc + 3) ls ((r.map (cV ad)).toList ++ rest.map (cV ad)))) : W p l e R s m args below meth c H locs nc ns Q (F0 m pc ls ((as.map (cV ad)).reverse ++ rest.map (cV ad))) := by
  have hkey := m_key (as := as) C hst hB0 hro hH0
  obtain ⟨hX, hB, hml, hown, hts, hK, hN, -⟩ := C
  obtain ⟨f1, f2, f3, f4, f5, -, -⟩ := m_facts ha hts
  have hM' : Met l (mname a) (mWs a) (mRm d mc ms) (mPc D tc ad B scr as hs) (mQc D tc ad B scr r hs') mc ms (fun q => B ≤ q) := hM
  rcases hlk with hlk | hlk
  · have hlink : (Cond.methodLink (mR (mown y)) idx (mname a)).before args s = true := hts _ (hwM (q := (mown y, idx, a)) hlk)
    have cb := callB_of (R := R) (own := mR (mown y)) (index := idx) (y := mname a) (bytes := mbytes a) (maxL := mmaxL a) (ret := mret a) (ws := mWs a) (ws' := mgood) (rm := mRm d mc ms) (mc := mc) (ms := ms) (marg a) hts (mWs_good f1) rfl rfl rfl f3 hlink f4 (m_room ha hR)
    exact m_back hst (va_runS (S := ⟨hX, hB, hml, hown, hts⟩) hM' ⟨cb, hts _ (hwStat (f5 hkd))⟩ ⟨mPc.blind, hkey⟩ rfl (by rw [List.length_map]; exact hn) hl rfl (lv_room (catN hcat)) hd hf) k
  · have hlink : va_Nw (.methodLinkNest (mR (mown y)) idx (mname a) RX4) s := hN.1 (mown y, idx, a) hlk
    have cb := va_cnB (R := R) (args := args) (own := mR (mown y)) (index := idx) (y := mname a) (host := RX4) (bytes := mbytes a) (maxL := mmaxL a) (ret := mret a) (ws := mWs a) (ws' := mgood) (rm := mRm d mc ms) (mc := mc) (ms := ms) (marg a) hts (mWs_good f1) rfl rfl rfl hlink f3 f4 (m_room ha hR)
    exact m_back hst (va_runSN (S := ⟨hX, hB, hml, hown, hts⟩) hM' ⟨cb, hts _ (hwStat (f5 hkd)), trivial⟩ ⟨mPc.blind, hkey⟩ rfl (by rw [List.length_map]; exact hn) hl rfl (lv_room (catN hcat)) hd hf) k
theorem m_callI (C : mCtx p s m args meth c y D tc) (hst : mSt D tc ad (fun q => B ≤ q) scr H0 hs H locs) (hB0 : B ≤ H0.size) (hro : mro ad (fun q => B ≤ q) s) (hH0 : H0 = s.heap) (hl : ls.size = mmaxL y) (hR : d + 6 ≤ R.frames ∧ 360 + 80 * (d + 1) ≤ R.locals) (hd : decode (mbytes y) pc = .ok (.invokespecial idx, 3)) (ha : a < 184)
    {rr : Nat} (hM : mMet l D tc ad B scr d a (.ref rr :: as) hs r hs' mc ms) (hf : nc + mc ≤ R.cells ∧ ns + ms ≤ R.slots) (hlk : (mown y, idx, a) ∈ mlM ∨ (mown y, idx, a) ∈ mlN) (hkd : mkd a = 2) (hn : as.length = marg a) (hcat : Nat.ble (mcat rest) 8 = true)
    (k : ∀ H' locs', mSt D tc ad (fun q => B ≤ q) scr H0 hs' H' locs' → W p l e R s m args below meth c H' locs' (nc + mc) (ns + ms) Q (F0 m (pc + 3) ls ((r.map (cV ad)).toList ++ rest.map (cV ad)))) : W p l e R s m args below meth c H locs nc ns Q (F0 m pc ls ((as.map (cV ad)).reverse ++ .ref (ad rr) :: rest.map (cV ad))) := by
  have hkey := m_key (as := .ref rr :: as) C hst hB0 hro hH0
  obtain ⟨hX, hB, hml, hown, hts, hK, hN, -⟩ := C
  obtain ⟨f1, f2, f3, f4, -, -, f5⟩ := m_facts ha hts
  obtain ⟨f6, f7, f8⟩ := f5 hkd
  have hM' : Met l (mname a) (mWs a) (mRm d mc ms) (mPc D tc ad B scr (.ref rr :: as) hs) (mQc D tc ad B scr r hs') mc ms (fun q => B ≤ q) := hM
  have hws : mWs a = Cond.code (mname a) (mbytes a) (mmaxL a) none :: mgood := by rw [mWs, f8]
  rcases hlk with hlk | hlk
  · have hlink : (Cond.methodLink (mR (mown y)) idx (mname a)).before args s = true := hts _ (hwM (q := (mown y, idx, a)) hlk)
    have cb := callB_of (R := R) (own := mR (mown y)) (index := idx) (y := mname a) (bytes := mbytes a) (maxL := mmaxL a) (ret := none) (ws := mWs a) (ws' := mgood) (rm := mRm d mc ms) (mc := mc) (ms := ms) (marg a) hts (mWs_good f1) hws rfl rfl f3 hlink f4 (m_room ha hR)
    exact m_back hst (va_runI (S := ⟨hX, hB, hml, hown, hts⟩) hM' ⟨cb, f7, hts _ (hwInst f6)⟩ ⟨mPc.blind, hkey⟩ rfl (by rw [List.length_map]; exact hn) hl rfl (lv_room (catN hcat)) hd hf) k
  · have hlink : va_Nw (.methodLinkNest (mR (mown y)) idx (mname a) RX4) s := hN.1 (mown y, idx, a) hlk
    have cb := va_cnB (R := R) (args := args) (own := mR (mown y)) (index := idx) (y := mname a) (host := RX4) (bytes := mbytes a) (maxL := mmaxL a) (ret := none) (ws := mWs a) (ws' := mgood) (rm := mRm d mc ms) (mc := mc) (ms := ms) (marg a) hts (mWs_good f1) hws rfl rfl hlink f3 f4 (m_room ha hR)
    exact m_back hst (va_runIN (S := ⟨hX, hB, hml, hown, hts⟩) hM' ⟨cb, f7, hts _ (hwInst f6)⟩ ⟨mPc.blind, hkey⟩ rfl (by rw [List.length_map]; exact hn) hl rfl (lv_room (catN hcat)) hd hf) k
end CALLS
end SND
