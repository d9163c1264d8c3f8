/-! what is only read, at the law's entry -/
def roT : Cond := Jvm.Cond.and given_1 narrow_1
def roIx (i : Nat) : Nat := [84, 90, 92, 94, 96, 98, 100].getD i 0
def roTm (i : Nat) : Term := .string RX3 (roIx i)
def roSt (k : Nat) : Term := .static RX4 (roN k) "[I"
theorem rw_ex : (List.range 7).all (fun i => decide (Cond.exactly (roTm i) "java/lang/String" ∈ flatC roT)) = true := by decide +kernel
theorem rw_co : (List.range 7).all (fun i => decide (Cond.eq (.field (roTm i) "java/lang/String" "coder" "B") (.int 0) ∈ flatC roT)) = true := by decide +kernel
theorem rw_ar : (List.range 7).all (fun i => decide (Cond.arrayOf (.field (roTm i) "java/lang/String" "value" "[B") .byte ∈ flatC roT)) = true := by decide +kernel
theorem rw_le : (List.range 7).all (fun i => decide (Cond.eq (.length (.field (roTm i) "java/lang/String" "value" "[B")) (.int (Int32.ofNat (roLen.getD i 0))) ∈ flatC roT)) = true := by decide +kernel
theorem rw_el : (List.range 7).all (fun i => (List.range (roLen.getD i 0)).all (fun j => decide (Cond.eq (.elem (.field (roTm i) "java/lang/String" "value" "[B") (.int (Int32.ofNat j))) (.int ((roStr.getD i []).getD j 0)) ∈ flatC roT))) = true := by decide +kernel
theorem rw_ne : (List.range 7).all (fun i => (List.range 7).all (fun j => Nat.beq i j || (decide (Cond.not (Cond.eq (roTm i) (roTm j)) ∈ flatC roT) || decide (Cond.not (Cond.eq (roTm j) (roTm i)) ∈ flatC roT)))) = true := by decide +kernel
theorem rw_sa : ([1, 2] : List Nat).all (fun k => decide (Cond.arrayOf (roSt k) .int ∈ flatC roT)) = true := by decide +kernel
theorem rw_sl : ([1, 2] : List Nat).all (fun k => decide (Cond.eq (.length (roSt k)) (.int (Int32.ofNat 4)) ∈ flatC roT)) = true := by decide +kernel
theorem rw_se : ([1, 2] : List Nat).all (fun k => (List.range 4).all (fun j => decide (Cond.eq (.elem (roSt k) (.int (Int32.ofNat j))) (.int ((roA k).getD j 0)) ∈ flatC roT))) = true := by decide +kernel
theorem rw_cs : Cond.eq (.static RJ0 "COMPACT_STRINGS" "Z") (.int 1) ∈ flatC roT := by decide +kernel
theorem rw_si : Cond.isRef (.static RJ3 "SIOOBE_FORMATTER" "Ljava/util/function/BiFunction;") ∈ flatC roT := by decide +kernel
theorem rw_tab : ([.laysStatic RJ0 "COMPACT_STRINGS" "Z", .laysStatic RJ3 "SIOOBE_FORMATTER" "Ljava/util/function/BiFunction;", .laysStatic RX4 "LOW_BY_KIND" "[I", .laysStatic RX4 "HIGH_BY_KIND" "[I", .initialized RJ0, .initialized RJ3, .initialized RX4] : List Cond).all (fun w => decide (w ∈ lw_tbl)) = true := by decide +kernel
theorem rw_str : (List.range 7).all (fun i => decide (Cond.stringRef RX3 (roIx i) (roTx (3 + i)) ∈ lw_tbl)) = true := by decide +kernel
theorem rw_nst : mlS.all (fun q => decide (Cond.fieldLinkNest (mR q.1) q.2.1 RX4 (roN q.2.2) "[I" RX4 ∈ lw_tbl)) = true := by decide +kernel
theorem rw_mlT : mlT = (List.range 7).map (fun i => (3, roIx i, 3 + i)) := by decide +kernel
theorem m_ro {s : State} {b : Nat} (hts : ∀ w ∈ lw_tbl, w.before #[Value.ref b] s = true) (hgv : (Jvm.Cond.and given_1 narrow_1).before #[Value.ref b] s = true) : ∃ (aL aH : Nat) (adK : Nat → Nat), ∀ ad : Nat → Nat, ad 1 = aL → ad 2 = aH → (∀ i, i < 7 → ad (3 + i) = adK i) → mro ad (fun q => s.heap.size ≤ q) s := by
  have hs : ∀ c ∈ flatC roT, c.before #[Value.ref b] s = true := flat_of_before _ hgv
  have hA : ∀ a : Nat, a < s.heap.size → ¬ s.heap.size ≤ a := fun a h => Nat.not_le.mpr h
  have r7 : ∀ {P : Nat → Cond}, (List.range 7).all (fun i => decide (P i ∈ flatC roT)) = true → ∀ i, i < 7 → (P i).before #[Value.ref b] s = true := fun h i hi => hs _ (of_decide_eq_true (List.all_eq_true.mp h i (List.mem_range.mpr hi)))
  have r2 : ∀ {P : Nat → Cond}, ([1, 2] : List Nat).all (fun i => decide (P i ∈ flatC roT)) = true → ∀ i, i = 1 ∨ i = 2 → (P i).before #[Value.ref b] s = true := fun h i hi => hs _ (of_decide_eq_true (List.all_eq_true.mp h i (by rcases hi with rfl | rfl <;> decide)))
  have tb : ∀ w ∈ ([.laysStatic RJ0 "COMPACT_STRINGS" "Z", .laysStatic RJ3 "SIOOBE_FORMATTER" "Ljava/util/function/BiFunction;", .laysStatic RX4 "LOW_BY_KIND" "[I", .laysStatic RX4 "HIGH_BY_KIND" "[I", .initialized RJ0, .initialized RJ3, .initialized RX4] : List Cond), w.before #[Value.ref b] s = true := fun w hw => hts w (of_decide_eq_true (List.all_eq_true.mp rw_tab w hw))
  have tb' : ∀ (k : Nat) {w : Cond}, ([.laysStatic RJ0 "COMPACT_STRINGS" "Z", .laysStatic RJ3 "SIOOBE_FORMATTER" "Ljava/util/function/BiFunction;", .laysStatic RX4 "LOW_BY_KIND" "[I", .laysStatic RX4 "HIGH_BY_KIND" "[I", .initialized RJ0, .initialized RJ3, .initialized RX4] : List Cond)[k]? = some w → w.before #[Value.ref b] s = true := fun k w h => tb w (List.mem_of_getElem? h)
  obtain ⟨adK, adV, hS, hev⟩ := vk_Sof (A := fun q => s.heap.size ≤ q) (N := 7) (tm := roTm) (len := roLen) (byt := roStr) (fun i hi => by rw [ro_len hi]; exact ro_small hi) (r7 rw_ex) (r7 rw_co) (r7 rw_ar) (r7 rw_le)
    (fun i hi j hj => hs _ (of_decide_eq_true (List.all_eq_true.mp (List.all_eq_true.mp rw_el i (List.mem_range.mpr hi)) j (List.mem_range.mpr hj))))
    (fun i j hi hj hij => by
      have h := List.all_eq_true.mp (List.all_eq_true.mp rw_ne i (List.mem_range.mpr hi)) j (List.mem_range.mpr hj)
      rcases mor h with q | q
      · exact absurd (beqN q) hij
      · exact (mor q).imp (fun w => hs _ (of_decide_eq_true w)) (fun w => hs _ (of_decide_eq_true w))) hA
  have arr : ∀ k, k = 1 ∨ k = 2 → ∃ t : Nat, (roSt k).eval #[Value.ref b] s none [] s = some (.ref t) ∧ va_T .int t 4 (fun j => .int ((roA k).getD j 0)) (fun q => s.heap.size ≤ q) s s.heap := fun k hk =>
    va_Tof (by decide) (r2 rw_sa k hk) (va_eqt (r2 rw_sl k hk)) (fun j hj => va_eqt (hs _ (of_decide_eq_true (List.all_eq_true.mp (List.all_eq_true.mp rw_se k (by rcases hk with rfl | rfl <;> decide)) j (List.mem_range.mpr hj))))) hA
  obtain ⟨aL, l1, l2⟩ := arr 1 (Or.inl rfl)
  obtain ⟨aH, g1, g2⟩ := arr 2 (Or.inr rfl)
  refine ⟨aL, aH, adK, fun ad e1 e2 e3 => ⟨⟨adV, ⟨fun i hi => ?_, fun i j hi hj => ?_⟩, va_Zof (tb' 0 rfl) (tb' 4 rfl) (va_eqi (hs _ rw_cs)) hA, ?_⟩, ?_, ?_, ?_⟩⟩
  · show va_O "java/lang/String" (ad (3 + i)) _ _ _ ∧ va_OF "java/lang/String" "coder" "B" (.int 0) (ad (3 + i)) _ _ _ ∧ va_OF "java/lang/String" "value" "[B" (.ref (adV i)) (ad (3 + i)) _ _ _ ∧ _
    rw [e3 i hi]; exact hS.1 i hi
  · show ad (3 + i) = ad (3 + j) → i = j
    rw [e3 i hi, e3 j hj]; exact hS.2 i j hi hj
  · rcases va_Zqof (tb' 1 rfl) (tb' 5 rfl) (hs _ rw_si) hA with h | ⟨t, h⟩
    · exact ⟨.null, rfl, h⟩
    · exact ⟨.ref t, rfl, h⟩
  · intro k hk
    rcases hk with rfl | rfl
    · rw [e1]; exact ⟨va_Zof (tb' 2 rfl) (tb' 6 rfl) l1 hA, l2⟩
    · rw [e2]; exact ⟨va_Zof (tb' 3 rfl) (tb' 6 rfl) g1 hA, g2⟩
  · exact fun q hq => va_Nw.of rfl (hts _ (of_decide_eq_true (List.all_eq_true.mp rw_nst q hq)))
  · intro q hq
    rw [rw_mlT] at hq
    obtain ⟨i, hi, rfl⟩ := List.mem_map.mp hq
    have hi := List.mem_range.mp hi
    show vk_R RX3 (roIx i) (roTx (3 + i)) (ad (3 + i)) s
    rw [e3 i hi]
    exact vk_R.of (hts _ (of_decide_eq_true (List.all_eq_true.mp rw_str i (List.mem_range.mpr hi)))) (hev i hi)
