/-! one instruction of the mini machine is one of the machine's -/
theorem mK_ok : (List.range 6).all (fun c => (u_ws (mR c) (mT c) (mN c)).all (fun w => decide (w ∈ lw_tbl) && goodWord w)) = true := by decide +kernel
theorem mK_in {a : Nat} (h : a < 6) : ∀ w ∈ u_ws (mR a) (mT a) (mN a), w ∈ mgood := fun w hw => by
  have h1 := List.all_eq_true.mp mK_ok a (List.mem_range.mpr h)
  have h2 := List.all_eq_true.mp h1 w hw
  simp only [Bool.and_eq_true, decide_eq_true_eq] at h2
  exact mem_good h2.1 h2.2
def mBs : List Cond := [Cond.arrayClass .int, Cond.arrayClass .byte, Cond.arrayClass .boolean, Cond.instanceMethod Lib.objectInit, Cond.code Lib.objectInit ⟨#[0xb1]⟩ 1 none, Cond.native arraycopyName, Cond.static arraycopyName, Cond.initialized "java/lang/System", Cond.initialized "java/lang/Math", Cond.static Lib.Math.min.name, Cond.static Lib.Math.max.name, Cond.static Lib.MathLoose.max_long.x, Cond.code Lib.Math.min.name Lib.Math.min.code 2 (some .int), Cond.code Lib.Math.max.name Lib.Math.max.code 2 (some .int), Cond.code Lib.MathLoose.max_long.x Lib.MathLoose.max_long.code 4 (some .long)]
theorem mB_ok : mBs.all (fun w => decide (w ∈ lw_tbl) && goodWord w) = true := by decide +kernel
theorem mB_in (k : Nat) {w : Cond} (h : mBs[k]? = some w) : w ∈ mgood := by
  have h2 := List.all_eq_true.mp mB_ok w (List.mem_of_getElem? h)
  simp only [Bool.and_eq_true, decide_eq_true_eq] at h2
  exact mem_good h2.1 h2.2
theorem many4 {x : Nat × Nat × Nat × Nat} {l : List (Nat × Nat × Nat × Nat)} (h : l.any (meq4 x) = true) : x ∈ l := by
  obtain ⟨q, h1, h2⟩ := List.any_eq_true.mp h
  rw [meq4_eq h2]; exact h1
theorem many3 {x : Nat × Nat × Nat} {l : List (Nat × Nat × Nat)} (h : l.any (meq3 x) = true) : x ∈ l := by
  obtain ⟨q, h1, h2⟩ := List.any_eq_true.mp h
  rw [meq3_eq h2]; exact h1
theorem manyz {x : Nat × Nat × Int} {l : List (Nat × Nat × Int)} (h : l.any (meqz x) = true) : x ∈ l := by
  obtain ⟨q, h1, h2⟩ := List.any_eq_true.mp h
  rw [meqz_eq h2]; exact h1
theorem many2 {x : Nat × Nat} {l : List (Nat × Nat)} (h : l.any (meq2 x) = true) : x ∈ l := by
  obtain ⟨q, h1, h2⟩ := List.any_eq_true.mp h
  rw [meq2_eq h2]; exact h1
theorem hwF {q : Nat × Nat × Nat × Nat} (h : q ∈ mlF) : mwF q ∈ mgood := mem_good (msub_mem _ _ mlF_ok _ (List.mem_map_of_mem h)) rfl
theorem hwM {q : Nat × Nat × Nat} (h : q ∈ mlM) : Cond.methodLink (mR q.1) q.2.1 (mname q.2.2) ∈ mgood := mem_good (msub_mem _ _ mlM_ok _ (List.mem_map_of_mem h)) rfl
theorem hwC {q : Nat × Nat × Nat} (h : q ∈ mlC) : Cond.classLink (mR q.1) q.2.1 (mR q.2.2) ∈ mgood := mem_good (msub_mem _ _ mlC_ok _ (List.mem_map_of_mem h)) rfl
theorem hwK {q : Nat × Nat × Int} (h : q ∈ mlK) : Cond.constant (mR q.1) q.2.1 (Int32.ofInt q.2.2) ∈ mgood := mem_good (msub_mem _ _ mlK_ok _ (List.mem_map_of_mem h)) rfl
theorem hwL {q : Nat × Nat × Int} (h : q ∈ mlL) : Cond.constantLong (mR q.1) q.2.1 (Int64.ofInt q.2.2) ∈ mgood := mem_good (msub_mem _ _ mlL_ok _ (List.mem_map_of_mem h)) rfl
theorem hwO {q : Nat × Nat} (h : q ∈ mlO) : Cond.methodLink (mR q.1) q.2 Lib.objectInit ∈ mgood := mem_good (msub_mem _ _ mlO_ok _ (List.mem_map_of_mem h)) rfl
theorem hwA {q : Nat × Nat} (h : q ∈ mlA) : Cond.methodLink (mR q.1) q.2 arraycopyName ∈ mgood := mem_good (msub_mem _ _ mlA_ok _ (List.mem_map_of_mem h)) rfl
theorem hwMin {q : Nat × Nat} (h : q ∈ mlMin) : Cond.methodLink (mR q.1) q.2 Lib.Math.min.name ∈ mgood := mem_good (msub_mem _ _ mlMin_ok _ (List.mem_map_of_mem h)) rfl
theorem hwMax {q : Nat × Nat} (h : q ∈ mlMax) : Cond.methodLink (mR q.1) q.2 Lib.Math.max.name ∈ mgood := mem_good (msub_mem _ _ mlMax_ok _ (List.mem_map_of_mem h)) rfl
theorem hwMaxL {q : Nat × Nat} (h : q ∈ mlMaxL) : Cond.methodLink (mR q.1) q.2 Lib.MathLoose.max_long.x ∈ mgood := mem_good (msub_mem _ _ mlMaxL_ok _ (List.mem_map_of_mem h)) rfl
theorem moIni_mem {c : Nat} (h : c < 7) : c ∈ moIni := by
  match c, h with
  | 0, _ => decide
  | 1, _ => decide
  | 2, _ => decide
  | 3, _ => decide
  | 4, _ => decide
  | 5, _ => decide
  | 6, _ => decide
theorem moIns_mem {c : Nat} (h : c < 6) : c ∈ moIns := by
  match c, h with
  | 0, _ => decide
  | 1, _ => decide
  | 2, _ => decide
  | 3, _ => decide
  | 4, _ => decide
  | 5, _ => decide
theorem hwIni {c : Nat} (h : c < 7) : Cond.initialized (mR c) ∈ mgood := mem_good (msub_mem _ _ moIni_ok _ (List.mem_map_of_mem (f := fun o => Cond.initialized (mR o)) (moIni_mem h))) rfl
theorem hwIns {c : Nat} (h : c < 6) : Cond.instantiable (mR c) (mN c) ∈ mgood := mem_good (msub_mem _ _ moIns_ok _ (List.mem_map_of_mem (f := fun o => Cond.instantiable (mR o) (mN o)) (moIns_mem h))) rfl
theorem mty_ok {a : Nat} (h : a < 6) : ∀ k, k < mN a → parseFieldDescriptor (mT a k).2.2.1 = some (mty a k) := by
  match a, h with
  | 0, _ => exact tyX0_ok
  | 1, _ => exact tyX1_ok
  | 2, _ => exact tyX2_ok
  | 3, _ => exact tyX3_ok
  | 4, _ => exact tyX4_ok
  | 5, _ => exact tyX5_ok
theorem mnm_ok {a : Nat} (h : a < 6) : ∀ x, x < mN a → ∀ y, y < mN a → x ≠ y → (mT a x).2.1 ≠ (mT a y).2.1 := by
  match a, h with
  | 0, _ => exact nmX0
  | 1, _ => exact nmX1
  | 2, _ => exact nmX2
  | 3, _ => exact nmX3
  | 4, _ => exact nmX4
  | 5, _ => exact nmX5
theorem blt_of {a b : Nat} (h : a < b) : Nat.blt a b = true := Nat.ble_eq_true_of_le h
theorem lt_of_blt {a b : Nat} (h : Nat.blt a b = true) : a < b := Nat.le_of_ble_eq_true h
theorem cE_obj {tc : Nat → ClassId} {ad : Nat → Nat} {a : Nat} {vs : List Value} (h : a < 6) : cE tc ad (.inr (a, vs)) = .inr (a, vs.map (cV ad)) := by
  show (bif Nat.blt a 6 then _ else _) = _
  rw [blt_of h]; rfl
theorem mfit_ok {ad : Nat → Nat} {ty : FieldType} {v : Value} (h : mfit ty v = true) : narrow ty (cV ad v) = cV ad v ∧ fits ty (cV ad v) = true := by
  cases ty <;> cases v <;> first | exact ⟨rfl, rfl⟩ | (exact Bool.noConfusion (show false = true from h)) | skip
  next x =>
    simp only [mfit, Bool.or_eq_true, decide_eq_true_eq] at h
    rcases h with rfl | rfl
    · exact ⟨show narrow .boolean (.int 0) = .int 0 by decide +kernel, show fits .boolean (.int 0) = true by decide +kernel⟩
    · exact ⟨show narrow .boolean (.int 1) = .int 1 by decide +kernel, show fits .boolean (.int 1) = true by decide +kernel⟩
def roN (k : Nat) : String := bif Nat.beq k 1 then "LOW_BY_KIND" else "HIGH_BY_KIND"
def roTx (k : Nat) : String := match k with
  | 3 => "plain"
  | 4 => "quick"
  | 5 => "lazy"
  | 6 => "bent"
  | 7 => "room"
  | 8 => "wall"
  | _ => "out"
/-- what is only read: static rows, String constants -/
def mro (ad : Nat → Nat) (A : Nat → Prop) (U : State) : Prop := (∃ adV : Nat → Nat, jZ (fun i => ad (3 + i)) adV A U) ∧
  (∀ k : Nat, k = 1 ∨ k = 2 → va_Z RX4 (roN k) "[I" (.ref (ad k)) A U U.heap ∧ va_T .int (ad k) 4 (fun j => .int ((roA k).getD j 0)) A U U.heap) ∧
  (∀ q ∈ mlS, va_Nw (.fieldLinkNest (mR q.1) q.2.1 RX4 (roN q.2.2) "[I" RX4) U) ∧ (∀ q ∈ mlT, vk_R (mR q.1) q.2.1 (roTx q.2.2) (ad q.2.2) U)
theorem mro.on {ad : Nat → Nat} {A : Nat → Prop} {s U : State} (hW : s.WarmedH U.vm) {H : Heap} {locs : List Loc} (hS : va_S A s.heap H locs) (hU : U.heap = H) (h : mro ad A s) : mro ad A U := by
  obtain ⟨⟨adV, h1⟩, h2, h3, h4⟩ := h
  refine ⟨⟨adV, h1.on hW.alike hS hU⟩, fun k hk => ?_, fun q hq => (h3 q hq).warmF hW, fun q hq => (h4 q hq).warm hW⟩
  subst hU
  exact ⟨((h2 k hk).1.kept hS.2.1).moved hW.alike, ((h2 k hk).2.kept hS.2.1).moved hW.alike⟩
theorem mro.same {ad : Nat → Nat} {A : Nat → Prop} {s U : State} (hv : U.vm = s.vm) (hh : U.heap = s.heap) (h : mro ad A s) : mro ad A U := by
  obtain ⟨⟨adV, h1⟩, h2, h3, h4⟩ := h
  have hal : s.vm.Alike U.vm := by rw [hv]; exact Vm.Alike.refl s.vm
  refine ⟨⟨adV, h1.on hal va_S.rf hh⟩, fun k hk => ?_, fun q hq => va_Nw.same rfl hv.symm (h3 q hq), fun q hq => (h4 q hq).same hv⟩
  rw [hh]
  exact ⟨(h2 k hk).1.moved hal, (h2 k hk).2.moved hal⟩
def mnest (U : State) : Prop := (∀ q ∈ mlN, va_Nw (.methodLinkNest (mR q.1) q.2.1 (mname q.2.2) RX4) U) ∧ va_AO RX1 U ∧ va_AO RX2 U
def mCtx (p : Program) (s : State) (m : MethodId) (args : Array Value) (meth : Method) (c : Code) (y : Nat) (D : va_G) (tc : Nat → ClassId) : Prop :=
  p.tables.exec = Jvm.exec ∧ c.code = mbytes y ∧ c.maxLocals = mmaxL y ∧ s.vm.findClass (mR (mown y)) = some m.cls ∧ (∀ w ∈ mgood, w.before args s = true) ∧ va_K D vwCl (mtys tc) s ∧ mnest s ∧ ((mname y).name = "<init>" → meth.name = "<init>")
section SIM
variable {p : Program} {l : Launch} {e : Env} {R : Room} {s : State} {m : MethodId} {args : Array Value} {below : List Frame} {meth : Method} {c : Code} {H : Heap} {locs : List Loc} {nc ns : Nat} {Q : State → Prop}
variable {D : va_G} {tc : Nat → ClassId} {ad : Nat → Nat} {A : Nat → Prop} {scr : List Int32} {H0 : Heap} {y pc : Nat} {hs : mH} {ls : Array Slot} {st : List Value}
theorem s_getf (C : mCtx p s m args meth c y D tc) (hst : mSt D tc ad A scr H0 hs H locs) {idx a b r : Nat} {vs : List Value} {v : Value} (hd : decode (mbytes y) pc = .ok (.getfield idx, 3)) (hl : (mown y, idx, a, b) ∈ mlF) (ha : a < 6) (hb : b < mN a)
    (hr : hs[r]? = some (.inr (a, vs))) (hv : vs[b]? = some v) (k : W p l e R s m args below meth c H locs nc ns Q (F0 m (pc + 3) ls (cV ad v :: st))) : W p l e R s m args below meth c H locs nc ns Q (F0 m pc ls (.ref (ad r) :: st)) := by
  obtain ⟨hx, hb', -, hown, hts, hK, -, -⟩ := C
  have h3 := hst.obj hr
  have he := cX_get (tc := tc) (ad := ad) h3 hr
  rw [cE_obj ha] at he
  exact va_get (Ts := mgood) hx hb' hts (mK_in ha) hown hK hst.1 (r - mn0) he (vw_get ha) b hb (hts _ (hwF hl)) (fun _ h => h) (v := cV ad v) (by rw [List.getElem?_map, hv]; rfl) hd k
theorem s_putf (C : mCtx p s m args meth c y D tc) (hst : mSt D tc ad A scr H0 hs H locs) {idx a b r : Nat} {vs : List Value} {v : Value} (hd : decode (mbytes y) pc = .ok (.putfield idx, 3)) (hl : (mown y, idx, a, b) ∈ mlF) (ha : a < 6) (hb : b < mN a)
    (h3 : mn0 ≤ r) (hr : hs[r]? = some (.inr (a, vs))) (hv : b < vs.length) (hf : mfit (mty a b) v = true) (hfin : (mT a b).2.2.2 = false ∨ ((mname y).name = "<init>" ∧ (mT a b).1 = mR (mown y)))
    (k : ∀ H' locs', mSt D tc ad A scr H0 (hs.set r (.inr (a, vs.set b v))) H' locs' → W p l e R s m args below meth c H' locs' nc ns Q (F0 m (pc + 3) ls st)) : W p l e R s m args below meth c H locs nc ns Q (F0 m pc ls (cV ad v :: .ref (ad r) :: st)) := by
  obtain ⟨hx, hb', -, hown, hts, hK, -, hnm⟩ := C
  have he := cX_get (tc := tc) (ad := ad) h3 hr
  rw [cE_obj ha] at he
  have hc := vw_get ha
  obtain ⟨hn, hfit⟩ := mfit_ok (ad := ad) hf
  have hap := va_apart (own := mR (mown y)) hts (mK_in ha) (mty a) (mty_ok ha) (mnm_ok ha) hK hc
  obtain ⟨r', h1, cell, q1, q2, q3, q4⟩ := hst.1 (r - mn0) _ he
  cases h1.symm.trans hc
  obtain ⟨hS, hfc, kC, hkC, hkind⟩ := hK.1 a _ hc
  obtain ⟨cf, kf, fi, f, hi, hsl⟩ := hS b hb
  have hd' := mty_ok ha b hb
  have hlk : (Cond.fieldLink (mR (mown y)) idx (mT a b).1 (mT a b).2.1 (mT a b).2.2.1).before args s = true := hts _ (hwF hl)
  have fin : ∀ H' : Heap, H'[ad r]? = some (cell.setSlot f.slot (cV ad v)) → H'.size = H.size → (∀ q, q ≠ ad r → H'[q]? = H[q]?) → W p l e R s m args below meth c H' (locs ++ [⟨ad r, f.slot⟩]) nc ns Q (F0 m (pc + 3) ls st) := by
    intro H' e1 e2 e3
    refine k H' _ (hst.put h3 hr ?_ e2 e3)
    rw [hsl] at e1
    rw [cE_obj ha, List.map_set]
    exact ⟨_, hc, t_OB.to (V := updV (vp_V (vs.map (cV ad))) b (cV ad v)) ⟨_, e1, q2, q3, t_set q4 hap hb (cV ad v)⟩ (fun j _ => vp_updV_set (by rw [List.length_map]; exact hv) (cV ad v) j)⟩
  have hst' := (u_facts hfc hkC (u_lays hts (mK_in ha) hb) hi).1
  have hlay := hts _ (mK_in ha _ (u_in_lay hb))
  unfold u_lay at hlay
  cases efin : (mT a b).2.2.2 with
  | false =>
    rw [if_neg (by rw [efin]; decide)] at hlay
    have h6 := u_store hfc hkC hkind hlay hi hd' hn hfit
    exact W.putK hx hb' (f := f) ⟨hown, hlk, ⟨_, _, _, hi⟩, hst'⟩ (by rw [q2]; exact h6) q1 q3 (by rw [hsl]; exact k2_hasslot (q4 b hb)) rfl rfl hd fin
  | true =>
    rw [if_pos efin] at hlay
    obtain ⟨hin, hdecl⟩ : (mname y).name = "<init>" ∧ (mT a b).1 = mR (mown y) := by
      rcases hfin with q | q
      · rw [efin] at q; cases q
      · exact q
    have h6 := u_fits hfc hkC hkind (u_lays hts (mK_in ha) hb) hi hd' hn hfit
    have hcf : m.cls = cf := by
      obtain ⟨_, _, c', _, _, _, -, -, hf', -, -, -, hown2, -⟩ := Cond.laysFinal_spec hlay
      have e1 : c' = cf := by have := hi.symm.trans hf'; simp at this; exact this.1.symm
      rw [hdecl] at hown2
      rw [← e1]; exact Option.some.inj (hown.symm.trans hown2)
    exact W.putFinK hx hb' hown hlk hi hst' hcf (hnm hin) (by rw [q2]; exact h6) q1 q3 (by rw [hsl]; exact k2_hasslot (q4 b hb)) rfl rfl hd fin
theorem upd_list (xs : List Int32) (k : Nat) (x : Int32) (hk : k < xs.length) : (fun j => Value.int ((xs.set k x).getD j 0)) = updV (fun j => Value.int (xs.getD j 0)) k (.int x) := by
  funext j
  by_cases e : j = k
  · subst e
    simp [updV, List.getD_eq_getElem?_getD, hk]
  · simp [updV, e, List.getD_eq_getElem?_getD, List.getElem?_set, Ne.symm e]
theorem s_iald (C : mCtx p s m args meth c y D tc) (hst : mSt D tc ad A scr H0 hs H locs) {r j : Nat} {xs : List Int32} {i : Int32} (hd : decode (mbytes y) pc = .ok (.iaload, 1)) (h3 : mn0 ≤ r) (hr : hs[r]? = some (.inl (0, xs))) (hi : midx i xs.length = some j)
    (k : W p l e R s m args below meth c H locs nc ns Q (F0 m (pc + 1) ls (.int (xs.getD j 0) :: st))) : W p l e R s m args below meth c H locs nc ns Q (F0 m pc ls (.int i :: .ref (ad r) :: st)) := by
  obtain ⟨hx, hb', -, -, -, hK, -, -⟩ := C
  obtain ⟨h1, rfl, -⟩ := midx_inv hi
  exact va_iald hx hb' hK hst.1 (r - mn0) 0 (cX_get (tc := tc) (ad := ad) h3 hr) rfl h1 hd k
theorem s_iscr (C : mCtx p s m args meth c y D tc) (hst : mSt D tc ad A scr H0 hs H locs) {sc : List Int32} (hsc : va_X (ad 0) sc.length (fun j => sc.getD j 0) s H0 ∧ ad 0 < H0.size ∧ ¬ A (ad 0)) {j : Nat} {i : Int32} (hd : decode (mbytes y) pc = .ok (.iaload, 1)) (hi : midx i sc.length = some j)
    (k : W p l e R s m args below meth c H locs nc ns Q (F0 m (pc + 1) ls (.int (sc.getD j 0) :: st))) : W p l e R s m args below meth c H locs nc ns Q (F0 m pc ls (.int i :: .ref (ad 0) :: st)) := by
  obtain ⟨hx, hb', -, -, -, hK, -, -⟩ := C
  obtain ⟨h1, rfl, -⟩ := midx_inv hi
  exact va_sld hx hb' hsc.1 hsc.2.1 hsc.2.2 hst.2.2.1 h1 hd k
theorem s_lscr (C : mCtx p s m args meth c y D tc) (hst : mSt D tc ad A scr H0 hs H locs) {sc : List Int32} (hsc : va_X (ad 0) sc.length (fun j => sc.getD j 0) s H0 ∧ ad 0 < H0.size ∧ ¬ A (ad 0)) (hd : decode (mbytes y) pc = .ok (.arraylength, 1))
    (k : W p l e R s m args below meth c H locs nc ns Q (F0 m (pc + 1) ls (.int (Int32.ofNat sc.length) :: st))) : W p l e R s m args below meth c H locs nc ns Q (F0 m pc ls (.ref (ad 0) :: st)) := by
  obtain ⟨hx, hb', -, -, -, hK, -, -⟩ := C
  exact va_slen hx hb' hsc.1 hsc.2.1 hsc.2.2 hst.2.2.1 hd k
theorem s_bald (C : mCtx p s m args meth c y D tc) (hst : mSt D tc ad A scr H0 hs H locs) {r j kd : Nat} {xs : List Int32} {i : Int32} (hd : decode (mbytes y) pc = .ok (.baload, 1)) (h3 : mn0 ≤ r) (hr : hs[r]? = some (.inl (kd, xs))) (hk : kd = 1 ∨ kd = 2) (hi : midx i xs.length = some j)
    (k : W p l e R s m args below meth c H locs nc ns Q (F0 m (pc + 1) ls (.int (xs.getD j 0) :: st))) : W p l e R s m args below meth c H locs nc ns Q (F0 m pc ls (.int i :: .ref (ad r) :: st)) := by
  obtain ⟨hx, hb', -, -, -, hK, -, -⟩ := C
  obtain ⟨h1, rfl, -⟩ := midx_inv hi
  rcases hk with rfl | rfl
  · exact va_bald hx hb' hK hst.1 (r - mn0) 1 (cX_get (tc := tc) (ad := ad) h3 hr) rfl h1 hd k
  · exact va_zald hx hb' hK hst.1 (r - mn0) 2 (cX_get (tc := tc) (ad := ad) h3 hr) rfl h1 hd k
theorem s_alen (C : mCtx p s m args meth c y D tc) (hst : mSt D tc ad A scr H0 hs H locs) {r kd : Nat} {xs : List Int32} (hd : decode (mbytes y) pc = .ok (.arraylength, 1)) (h3 : mn0 ≤ r) (hr : hs[r]? = some (.inl (kd, xs))) (hk : kd ≤ 2)
    (k : W p l e R s m args below meth c H locs nc ns Q (F0 m (pc + 1) ls (.int (Int32.ofNat xs.length) :: st))) : W p l e R s m args below meth c H locs nc ns Q (F0 m pc ls (.ref (ad r) :: st)) := by
  obtain ⟨hx, hb', -, -, -, hK, -, -⟩ := C
  have he := cX_get (tc := tc) (ad := ad) h3 hr
  match kd, hk, he with
  | 0, _, he => exact va_alen hx hb' hK hst.1 _ 0 he (ty := .int) rfl rfl hd k
  | 1, _, he => exact va_alen hx hb' hK hst.1 _ 1 he (ty := .byte) rfl rfl hd k
  | 2, _, he => exact va_alen hx hb' hK hst.1 _ 2 he (ty := .boolean) rfl rfl hd k
theorem s_iast (C : mCtx p s m args meth c y D tc) (hst : mSt D tc ad A scr H0 hs H locs) {r j : Nat} {xs : List Int32} {i x : Int32} (hd : decode (mbytes y) pc = .ok (.iastore, 1)) (h3 : mn0 ≤ r) (hr : hs[r]? = some (.inl (0, xs))) (hi : midx i xs.length = some j)
    (k : ∀ H' locs', mSt D tc ad A scr H0 (hs.set r (.inl (0, xs.set j x))) H' locs' → W p l e R s m args below meth c H' locs' nc ns Q (F0 m (pc + 1) ls st)) : W p l e R s m args below meth c H locs nc ns Q (F0 m pc ls (.int x :: .int i :: .ref (ad r) :: st)) := by
  obtain ⟨hx, hb', -, -, -, hK, -, -⟩ := C
  obtain ⟨h1, rfl, hj⟩ := midx_inv hi
  have he : H[ad r]? = some (arrV (tc 0) xs.length (fun j => .int (xs.getD j 0))) := hst.1 (r - mn0) _ (cX_get (tc := tc) (ad := ad) h3 hr)
  refine W.iast hx hb' he ((hK.2 0 _ rfl).1 _ _) (fun q => by cases q) (by rw [arrV_size]; exact h1) rfl rfl hd fun H1 e1 z oq => ?_
  refine k H1 _ (hst.put h3 hr ?_ z oq)
  show H1[ad r]? = some (arrV (tc 0) (xs.set i.toNatClampNeg x).length (fun j => .int ((xs.set i.toNatClampNeg x).getD j 0)))
  rw [e1, arrV_store, List.length_set, upd_list xs _ x hj]
theorem nar_b (x : Int32) : narrow .byte (.int x) = .int (vp_nar .byte x) := by rw [vp_nar_byte]; rfl
theorem s_bast (C : mCtx p s m args meth c y D tc) (hst : mSt D tc ad A scr H0 hs H locs) {r j : Nat} {xs : List Int32} {i x : Int32} (hd : decode (mbytes y) pc = .ok (.bastore, 1)) (h3 : mn0 ≤ r) (hr : hs[r]? = some (.inl (1, xs))) (hi : midx i xs.length = some j)
    (k : ∀ H' locs', mSt D tc ad A scr H0 (hs.set r (.inl (1, xs.set j (vp_nar .byte x)))) H' locs' → W p l e R s m args below meth c H' locs' nc ns Q (F0 m (pc + 1) ls st)) : W p l e R s m args below meth c H locs nc ns Q (F0 m pc ls (.int x :: .int i :: .ref (ad r) :: st)) := by
  obtain ⟨hx, hb', -, -, -, hK, -, -⟩ := C
  obtain ⟨h1, rfl, hj⟩ := midx_inv hi
  have he : H[ad r]? = some (arrV (tc 1) xs.length (fun j => .int (xs.getD j 0))) := hst.1 (r - mn0) _ (cX_get (tc := tc) (ad := ad) h3 hr)
  refine W.bast hx hb' he ((hK.2 1 _ rfl).1 _ _) (fun q => by cases q) (by rw [arrV_size]; exact h1) rfl rfl hd fun H1 e1 z oq => ?_
  refine k H1 _ (hst.put h3 hr ?_ z oq)
  show H1[ad r]? = some (arrV (tc 1) (xs.set i.toNatClampNeg (vp_nar .byte x)).length (fun j => .int ((xs.set i.toNatClampNeg (vp_nar .byte x)).getD j 0)))
  rw [e1, arrV_store, List.length_set, upd_list xs _ _ hj, nar_b]
theorem s_zast (C : mCtx p s m args meth c y D tc) (hst : mSt D tc ad A scr H0 hs H locs) {r j : Nat} {xs : List Int32} {i x : Int32} (hd : decode (mbytes y) pc = .ok (.bastore, 1)) (h3 : mn0 ≤ r) (hr : hs[r]? = some (.inl (2, xs))) (hi : midx i xs.length = some j)
    (k : ∀ H' locs', mSt D tc ad A scr H0 (hs.set r (.inl (2, xs.set j (vp_nar .boolean x)))) H' locs' → W p l e R s m args below meth c H' locs' nc ns Q (F0 m (pc + 1) ls st)) : W p l e R s m args below meth c H locs nc ns Q (F0 m pc ls (.int x :: .int i :: .ref (ad r) :: st)) := by
  obtain ⟨hx, hb', -, -, -, hK, -, -⟩ := C
  obtain ⟨h1, rfl, hj⟩ := midx_inv hi
  have he : H[ad r]? = some (arrV (tc 2) xs.length (fun j => .int (xs.getD j 0))) := hst.1 (r - mn0) _ (cX_get (tc := tc) (ad := ad) h3 hr)
  refine W.zast hx hb' he ((hK.2 2 _ rfl).1 _ _) (fun q => by cases q) (by rw [arrV_size]; exact h1) rfl rfl hd fun H1 e1 z oq => ?_
  refine k H1 _ (hst.put h3 hr ?_ z oq)
  show H1[ad r]? = some (arrV (tc 2) (xs.set i.toNatClampNeg (vp_nar .boolean x)).length (fun j => .int ((xs.set i.toNatClampNeg (vp_nar .boolean x)).getD j 0)))
  rw [e1, arrV_store, List.length_set, upd_list xs _ _ hj]
  rfl
end SIM
