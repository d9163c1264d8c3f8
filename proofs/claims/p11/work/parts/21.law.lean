def R_law : String := "TongueRoomsLaw"
def lw_P (b : Addr) (xs : List Int32) (args : Array Value) (s : State) : Prop := args = #[.ref b] ∧ s.IntsAt b xs ∧ xs.length ≤ 3072 ∧ (Jvm.Cond.and given_1 narrow_1).before args s = true
def lw_Q (_ : Array Value) (s : State) (o : Outcome) (t : State) : Prop := o = .returned (some (.int 1)) ∧ Framed s o t [] 600000 7302250
def lw_Z (below : List Frame) (a : Array Value) (s : State) : State → Prop := fun t => ∃ o, t.status = .running ∧ Ended t below o ∧ lw_Q a s o t
/-- the law's own end, with 1 on the stack, nothing written that was there before, its room as the claim has it -/
theorem lw_ret {p : Program} {l : Launch} {e : Env} {s : State} {m : MethodId} {below : List Frame} {meth : Method} {c : Code} {b : Nat} (hx : p.tables.exec = Jvm.exec) (hb : c.code = code) (hr : meth.sig.returnType = ret) (hlocks : meth.locks = false) {pc : Nat} {H : Heap} {ls : Array Slot} (hdg : decode code pc = .ok (.ireturn, 1)) : W p l e room_1 s m #[Value.ref b] below meth c H [] 600000 7302250 (lw_Z below #[Value.ref b] s) (F0 m pc ls [.int 1]) := by
  intro T hT X
  obtain ⟨fs, hret, hrun, hended, hW, hframe⟩ := X.leave (v := some (.int 1)) (hlocks := hlocks) (fun h => by rw [hr] at h; cases h)
  have hmeth' : T.vm.method? m = some meth := X.method'
  refine ⟨T.setFrames fs, ?_, .returned (some (.int 1)), hrun, hended, rfl, ⟨_, rfl⟩, hW, hframe⟩
  jvm_step X.here [X.here.top, hx, hb, hdg, hmeth', hr, ret, narrow_b1]
  (try refine ⟨rfl, ?_⟩); (try refine ⟨rfl, ?_⟩)
  first | (intro acts; rw [hret _ acts rfl rfl rfl]) | rw [hret _ _ rfl rfl rfl]
  exact Steps.refl _
/-- what holds at the law's entry: the machine, the code, the tables' words (any of lw_tbl by 'hts w (by decide +kernel)'), the script of L ints xs at the cell b, what the Statement gives of the start (any of its parts by flat_of_before) -/
def lw_At (p : Program) (s : State) (m : MethodId) (meth : Method) (c : Code) (b L : Nat) (xs : Nat → Int32) : Prop :=
  p.tables.exec = Jvm.exec ∧ c.code = code ∧ meth.sig.returnType = ret ∧ c.maxLocals = 4 ∧ s.vm.findClass R_law = some m.cls ∧ (∀ w ∈ lw_tbl, w.before #[Value.ref b] s = true) ∧ va_X b L xs s s.heap ∧ b < s.heap.size ∧ meth.locks = false ∧ (Jvm.Cond.and given_1 narrow_1).before #[Value.ref b] s = true
/-! what stands at the law's entry is a start of the mini machine -/
theorem mlaw_over1 : Cond.arrayOver (.object RX1) ∈ lw_tbl := by decide +kernel
theorem mlaw_over2 : Cond.arrayOver (.object RX2) ∈ lw_tbl := by decide +kernel
theorem mlaw_arr {s : State} {args : Array Value} {ty : FieldType} (h : (Cond.arrayClass ty).before args s = true) (hp : ∀ C, ty ≠ .object C) : ∃ cA : ClassId, ArrOfT s cA ty ∧ va_RA s cA ty := by
  obtain ⟨cA, kA, comp, hfind, hk, hkind⟩ := Cond.arrayClass_spec h
  refine ⟨cA, fun n z => ⟨fun k h => (by cases h), kA, hk, comp, hkind⟩, ?_⟩
  cases ty with
  | object C => exact absurd rfl (hp C)
  | _ => exact hfind
theorem mlaw_over {s : State} {C : String} (h : va_AO C s) : ∃ cA : ClassId, ArrOfT s cA (.object C) ∧ va_RA s cA (.object C) := by
  obtain ⟨comp, cA, kA, hcomp, hidx, hk, hkind, hname⟩ := Cond.arrayOver_spec h
  exact ⟨cA, fun n z => ⟨fun k h => (by cases h), kA, hk, comp, hkind⟩, kA, comp, hk, hkind, hcomp, hname⟩
/-- the law, out of a run of the mini machine -/
theorem m_law {p : Program} {e : Env} {s : State} {m : MethodId} {below : List Frame} {meth : Method} {c : Code} (l : Launch) {b L : Nat} {xs : Nat → Int32} (C0 : lw_At p s m meth c b L xs) {n d mc ms : Nat} {hs' : mH} (hd : d ≤ 1000) (hmc : mc ≤ 600000) (hms : ms ≤ 7302250)
    (hrun : mrun ((List.range L).map xs) n d 184 (mentry 184 [.ref 0] (List.replicate 10 (.inl (0, [])))) = some (some (.int 1), hs', mc, ms)) : W p l e room_1 s m #[Value.ref b] below meth c s.heap [] 0 0 (lw_Z below #[Value.ref b] s) (entryFrame m ([Value.ref b] : List Value).toArray 4) := by
  obtain ⟨hx, hb, hr, hml, hown, hts, hX, hbl, hlocks, hgv⟩ := C0
  have htg : ∀ w ∈ mgood, w.before #[Value.ref b] s = true := fun w hw => hts w (List.mem_filter.mp hw).1
  have kn : ∀ a, a < 6 → ∃ (cC : ClassId) (iS : Nat → Nat), u_Kn s (mR a) (mT a) (mN a) cC iS := fun a ha => u_known htg (mK_in ha) (htg _ (hwIns ha))
  obtain ⟨c0, i0, k0⟩ := kn 0 (by decide)
  obtain ⟨c1, i1, k1⟩ := kn 1 (by decide)
  obtain ⟨c2, i2, k2⟩ := kn 2 (by decide)
  obtain ⟨c3, i3, k3⟩ := kn 3 (by decide)
  obtain ⟨c4, i4, k4⟩ := kn 4 (by decide)
  obtain ⟨c5, i5, k5⟩ := kn 5 (by decide)
  obtain ⟨D, hKc⟩ : ∃ D : va_G, ∀ (k : Nat) (q : vw_C), vwCl[k]? = some q → u_Kn s q.1 q.2.1 q.2.2 (D.1 k) (D.2 k) := by
    refine ⟨(fun k => match k with | 0 => c0 | 1 => c1 | 2 => c2 | 3 => c3 | 4 => c4 | _ => c5, fun k => match k with | 0 => i0 | 1 => i1 | 2 => i2 | 3 => i3 | 4 => i4 | _ => i5), ?_⟩
    intro k q hq
    match k, hq with
    | 0, hq => cases hq; exact k0
    | 1, hq => cases hq; exact k1
    | 2, hq => cases hq; exact k2
    | 3, hq => cases hq; exact k3
    | 4, hq => cases hq; exact k4
    | 5, hq => cases hq; exact k5
    | k + 6, hq => simp [vwCl] at hq
  have hao1 : va_AO RX1 s := va_AO.of (hts _ mlaw_over1)
  have hao2 : va_AO RX2 s := va_AO.of (hts _ mlaw_over2)
  obtain ⟨t0, a0, r0⟩ := mlaw_arr (htg (Cond.arrayClass .int) (mB_in 0 rfl)) (fun C h => by cases h)
  obtain ⟨t1, a1, r1⟩ := mlaw_arr (htg (Cond.arrayClass .byte) (mB_in 1 rfl)) (fun C h => by cases h)
  obtain ⟨t2, a2, r2⟩ := mlaw_arr (htg (Cond.arrayClass .boolean) (mB_in 2 rfl)) (fun C h => by cases h)
  obtain ⟨t3, a3, r3⟩ := mlaw_over hao1
  obtain ⟨t4, a4, r4⟩ := mlaw_over hao2
  obtain ⟨tc, hK⟩ : ∃ tc : Nat → ClassId, va_K D vwCl (mtys tc) s := by
    refine ⟨fun k => match k with | 0 => t0 | 1 => t1 | 2 => t2 | 3 => t3 | _ => t4, hKc, ?_⟩
    intro k q hq
    match k, hq with
    | 0, hq => cases hq; exact ⟨a0, r0⟩
    | 1, hq => cases hq; exact ⟨a1, r1⟩
    | 2, hq => cases hq; exact ⟨a2, r2⟩
    | 3, hq => cases hq; exact ⟨a3, r3⟩
    | 4, hq => cases hq; exact ⟨a4, r4⟩
    | k + 5, hq => simp [mtys] at hq
  have hN : mnest s := ⟨fun q hq => va_Nw.of rfl (hts _ (msub_mem _ _ mlN_ok _ (List.mem_map_of_mem (f := fun q => Cond.methodLinkNest (mR q.1) q.2.1 (mname q.2.2) RX4) hq))), hao1, hao2⟩
  have C : mCtx p s m #[Value.ref b] meth c 184 D tc := ⟨hx, hb, hml, hown, htg, hK, hN, fun q => absurd q (by decide)⟩
  obtain ⟨aL, aH, adK, hmro⟩ := m_ro hts hgv
  obtain ⟨ad, had⟩ : ∃ ad : Nat → Nat, ad = fun k => if k = 0 then b else if k = 1 then aL else if k = 2 then aH else if k < 10 then adK (k - 3) else s.heap.size + (k - 10) := ⟨_, rfl⟩
  have had0 : ad 0 = b := by rw [had]; rfl
  have hadk : ∀ k, 10 ≤ k → ad k = s.heap.size + (k - 10) := fun k hk => by
    rw [had]
    show (if k = 0 then b else if k = 1 then aL else if k = 2 then aH else if k < 10 then adK (k - 3) else s.heap.size + (k - 10)) = _
    rw [if_neg (by omega), if_neg (by omega), if_neg (by omega), if_neg (by omega)]
  have hro : mro ad (fun q => s.heap.size ≤ q) s := hmro ad (by rw [had]; rfl) (by rw [had]; rfl) (fun i hi => by
    rw [had]
    show (if 3 + i = 0 then b else if 3 + i = 1 then aL else if 3 + i = 2 then aH else if 3 + i < 10 then adK (3 + i - 3) else s.heap.size + (3 + i - 10)) = _
    rw [if_neg (by omega), if_neg (by omega), if_neg (by omega), if_pos (by omega), Nat.add_sub_cancel_left])
  have hlen : ((List.range L).map xs).length = L := by rw [List.length_map, List.length_range]
  have hsc : va_X (ad 0) ((List.range L).map xs).length (fun j => ((List.range L).map xs).getD j 0) s s.heap := by
    rw [had0, hlen]
    obtain ⟨scr, w1, w2, w3, w4, w5⟩ := hX
    refine ⟨scr, w1, w2, w3, w4, fun j hj => ?_⟩
    rw [w5 j hj]
    show _ = some (Value.int (((List.range L).map xs).getD j 0))
    rw [List.getD_eq_getElem?_getD, List.getElem?_map, List.getElem?_range hj]
    rfl
  have hst : mSt D tc ad (fun q => s.heap.size ≤ q) [] s.heap (List.replicate 10 (.inl (0, []))) s.heap [] := by
    have h0 : (cW tc ad (List.replicate 10 (.inl (0, [])))).drop mn0 = [] := List.drop_eq_nil_of_le (by rw [cW, List.length_mapIdx, List.length_replicate]; exact Nat.le_refl _)
    refine ⟨?_, ?_, va_S.rf, fun k hk => hadk k hk, fun k hk => by rw [hadk k hk]; exact Nat.le_add_right _ _, fun r hr => ?_⟩
    · rw [h0]; intro k q h; cases h
    · rw [h0]; exact ⟨fun i j p q h => (by cases h), fun k q h => (by cases h)⟩
    · rw [List.getElem?_replicate]; exact if_pos hr
  have hent : (entryFrame m ([Value.ref b] : List Value).toArray 4) = F0 m 0 ((lg_sl (([.ref 0] : List Value).map (cV ad)) ++ List.replicate (mmaxL 184 - (lg_sl (([.ref 0] : List Value).map (cV ad))).length) Slot.unset).toArray) [] := by
    rw [lg_entry_eq]
    show _ = F0 m 0 ((lg_sl [Value.ref (ad 0)] ++ List.replicate (4 - (lg_sl [Value.ref (ad 0)]).length) Slot.unset).toArray) []
    rw [had0]
  rw [hent]
  refine m_walk (H0 := s.heap) (scr := []) (sc := (List.range L).map xs) C (Nat.le_refl _) hro rfl (fun _ => ⟨hsc, by rw [had0]; exact hbl, by rw [had0]; exact Nat.not_le.mpr hbl⟩) n (fun n _ => m_met n) (d := d) ⟨by show d + 5 ≤ 2048; omega, by show 360 + 80 * d ≤ 84000; omega⟩ (mc := mc) (ms := ms) hmc hms ?_ n (Nat.le_refl _) (mentry 184 [.ref 0] (List.replicate 10 (.inl (0, [])))) s.heap [] _ hrun hst (m_entry (by decide))
  intro pc ins H' locs' ls' hdg hri hst'
  rcases hri with ⟨h1, -, -⟩ | ⟨x, h1, rfl, -⟩ | ⟨x, h1, -⟩ | ⟨x, Cn, h1, -⟩
  · cases h1
  · refine va_forget (fun q hq => hst'.2.2.1.2.2 q hq) ?_
    refine W.widen (k := 600000) (n := 7302250) hmc hms ?_
    exact lw_ret hx hb hr hlocks hdg
  · cases h1
  · cases h1
