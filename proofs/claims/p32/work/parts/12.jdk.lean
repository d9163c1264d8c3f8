/-! the JDK's own methods of String constants: length, charAt -/
abbrev cJ0_length_8abf5 : ByteArray := prog_9_method_54_code
def yJ0_length_8abf5 : MethodName := ⟨RJ0, "length", "()I"⟩
abbrev cJ0_charAt_5068e : ByteArray := prog_9_method_56_code
def yJ0_charAt_5068e : MethodName := ⟨RJ0, "charAt", "(I)C"⟩
abbrev cJ0_coder_7d493 : ByteArray := prog_9_method_152_code
def yJ0_coder_7d493 : MethodName := ⟨RJ0, "coder", "()B"⟩
abbrev cJ0_isLatin1_aae02 : ByteArray := prog_9_method_154_code
def yJ0_isLatin1_aae02 : MethodName := ⟨RJ0, "isLatin1", "()Z"⟩
abbrev cJ0_checkIndex_df160 : ByteArray := prog_9_method_155_code
def yJ0_checkIndex_df160 : MethodName := ⟨RJ0, "checkIndex", "(II)V"⟩
abbrev cJ1_charAt_3b067 : ByteArray := prog_10_method_2_code
def yJ1_charAt_3b067 : MethodName := ⟨RJ1, "charAt", "([BI)C"⟩
abbrev cJ3_checkIndex_8e157 : ByteArray := prog_13_method_11_code
def yJ3_checkIndex_8e157 : MethodName := ⟨RJ3, "checkIndex", "(IILjava/util/function/BiFunction;)I"⟩
theorem dJ0_length_8abf5_0 : decode cJ0_length_8abf5 0 = .ok (.aload_n 0, 1) := by decide +kernel
theorem dJ0_length_8abf5_1 : decode cJ0_length_8abf5 1 = .ok (.getfield 9, 3) := by decide +kernel
theorem dJ0_length_8abf5_4 : decode cJ0_length_8abf5 4 = .ok (.arraylength, 1) := by decide +kernel
theorem dJ0_length_8abf5_5 : decode cJ0_length_8abf5 5 = .ok (.aload_n 0, 1) := by decide +kernel
theorem dJ0_length_8abf5_6 : decode cJ0_length_8abf5 6 = .ok (.invokevirtual 335, 3) := by decide +kernel
theorem dJ0_length_8abf5_9 : decode cJ0_length_8abf5 9 = .ok (.ishr, 1) := by decide +kernel
theorem dJ0_length_8abf5_10 : decode cJ0_length_8abf5 10 = .ok (.ireturn, 1) := by decide +kernel
theorem dJ0_charAt_5068e_0 : decode cJ0_charAt_5068e 0 = .ok (.aload_n 0, 1) := by decide +kernel
theorem dJ0_charAt_5068e_1 : decode cJ0_charAt_5068e 1 = .ok (.invokevirtual 492, 3) := by decide +kernel
theorem dJ0_charAt_5068e_4 : decode cJ0_charAt_5068e 4 = .ok (.ifCond .eq 12, 3) := by decide +kernel
theorem dJ0_charAt_5068e_7 : decode cJ0_charAt_5068e 7 = .ok (.aload_n 0, 1) := by decide +kernel
theorem dJ0_charAt_5068e_8 : decode cJ0_charAt_5068e 8 = .ok (.getfield 9, 3) := by decide +kernel
theorem dJ0_charAt_5068e_11 : decode cJ0_charAt_5068e 11 = .ok (.iload_n 1, 1) := by decide +kernel
theorem dJ0_charAt_5068e_12 : decode cJ0_charAt_5068e 12 = .ok (.invokestatic 495, 3) := by decide +kernel
theorem dJ0_charAt_5068e_15 : decode cJ0_charAt_5068e 15 = .ok (.ireturn, 1) := by decide +kernel
theorem dJ0_charAt_5068e_16 : decode cJ0_charAt_5068e 16 = .ok (.aload_n 0, 1) := by decide +kernel
theorem dJ0_charAt_5068e_17 : decode cJ0_charAt_5068e 17 = .ok (.getfield 9, 3) := by decide +kernel
theorem dJ0_charAt_5068e_20 : decode cJ0_charAt_5068e 20 = .ok (.iload_n 1, 1) := by decide +kernel
theorem dJ0_charAt_5068e_21 : decode cJ0_charAt_5068e 21 = .ok (.invokestatic 498, 3) := by decide +kernel
theorem dJ0_charAt_5068e_24 : decode cJ0_charAt_5068e 24 = .ok (.ireturn, 1) := by decide +kernel
theorem dJ0_coder_7d493_0 : decode cJ0_coder_7d493 0 = .ok (.getstatic 38, 3) := by decide +kernel
theorem dJ0_coder_7d493_3 : decode cJ0_coder_7d493 3 = .ok (.ifCond .eq 10, 3) := by decide +kernel
theorem dJ0_coder_7d493_6 : decode cJ0_coder_7d493 6 = .ok (.aload_n 0, 1) := by decide +kernel
theorem dJ0_coder_7d493_7 : decode cJ0_coder_7d493 7 = .ok (.getfield 15, 3) := by decide +kernel
theorem dJ0_coder_7d493_10 : decode cJ0_coder_7d493 10 = .ok (.goto 4, 3) := by decide +kernel
theorem dJ0_coder_7d493_13 : decode cJ0_coder_7d493 13 = .ok (.iconst 1, 1) := by decide +kernel
theorem dJ0_coder_7d493_14 : decode cJ0_coder_7d493 14 = .ok (.ireturn, 1) := by decide +kernel
theorem dJ0_isLatin1_aae02_0 : decode cJ0_isLatin1_aae02 0 = .ok (.getstatic 38, 3) := by decide +kernel
theorem dJ0_isLatin1_aae02_3 : decode cJ0_isLatin1_aae02 3 = .ok (.ifCond .eq 14, 3) := by decide +kernel
theorem dJ0_isLatin1_aae02_6 : decode cJ0_isLatin1_aae02 6 = .ok (.aload_n 0, 1) := by decide +kernel
theorem dJ0_isLatin1_aae02_7 : decode cJ0_isLatin1_aae02 7 = .ok (.getfield 15, 3) := by decide +kernel
theorem dJ0_isLatin1_aae02_10 : decode cJ0_isLatin1_aae02 10 = .ok (.ifCond .ne 7, 3) := by decide +kernel
theorem dJ0_isLatin1_aae02_13 : decode cJ0_isLatin1_aae02 13 = .ok (.iconst 1, 1) := by decide +kernel
theorem dJ0_isLatin1_aae02_14 : decode cJ0_isLatin1_aae02 14 = .ok (.goto 4, 3) := by decide +kernel
theorem dJ0_isLatin1_aae02_17 : decode cJ0_isLatin1_aae02 17 = .ok (.iconst 0, 1) := by decide +kernel
theorem dJ0_isLatin1_aae02_18 : decode cJ0_isLatin1_aae02 18 = .ok (.ireturn, 1) := by decide +kernel
theorem dJ0_checkIndex_df160_0 : decode cJ0_checkIndex_df160 0 = .ok (.iload_n 0, 1) := by decide +kernel
theorem dJ0_checkIndex_df160_1 : decode cJ0_checkIndex_df160 1 = .ok (.iload_n 1, 1) := by decide +kernel
theorem dJ0_checkIndex_df160_2 : decode cJ0_checkIndex_df160 2 = .ok (.getstatic 1053, 3) := by decide +kernel
theorem dJ0_checkIndex_df160_5 : decode cJ0_checkIndex_df160 5 = .ok (.invokestatic 1059, 3) := by decide +kernel
theorem dJ0_checkIndex_df160_8 : decode cJ0_checkIndex_df160 8 = .ok (.pop, 1) := by decide +kernel
theorem dJ0_checkIndex_df160_9 : decode cJ0_checkIndex_df160 9 = .ok (.return_, 1) := by decide +kernel
theorem dJ1_charAt_3b067_0 : decode cJ1_charAt_3b067 0 = .ok (.iload_n 1, 1) := by decide +kernel
theorem dJ1_charAt_3b067_1 : decode cJ1_charAt_3b067 1 = .ok (.aload_n 0, 1) := by decide +kernel
theorem dJ1_charAt_3b067_2 : decode cJ1_charAt_3b067 2 = .ok (.arraylength, 1) := by decide +kernel
theorem dJ1_charAt_3b067_3 : decode cJ1_charAt_3b067 3 = .ok (.invokestatic 9, 3) := by decide +kernel
theorem dJ1_charAt_3b067_6 : decode cJ1_charAt_3b067 6 = .ok (.aload_n 0, 1) := by decide +kernel
theorem dJ1_charAt_3b067_7 : decode cJ1_charAt_3b067 7 = .ok (.iload_n 1, 1) := by decide +kernel
theorem dJ1_charAt_3b067_8 : decode cJ1_charAt_3b067 8 = .ok (.baload, 1) := by decide +kernel
theorem dJ1_charAt_3b067_9 : decode cJ1_charAt_3b067 9 = .ok (.sipush 255, 3) := by decide +kernel
theorem dJ1_charAt_3b067_12 : decode cJ1_charAt_3b067 12 = .ok (.iand, 1) := by decide +kernel
theorem dJ1_charAt_3b067_13 : decode cJ1_charAt_3b067 13 = .ok (.i2c, 1) := by decide +kernel
theorem dJ1_charAt_3b067_14 : decode cJ1_charAt_3b067 14 = .ok (.ireturn, 1) := by decide +kernel
theorem dJ3_checkIndex_8e157_0 : decode cJ3_checkIndex_8e157 0 = .ok (.iload_n 0, 1) := by decide +kernel
theorem dJ3_checkIndex_8e157_1 : decode cJ3_checkIndex_8e157 1 = .ok (.ifCond .lt 8, 3) := by decide +kernel
theorem dJ3_checkIndex_8e157_4 : decode cJ3_checkIndex_8e157 4 = .ok (.iload_n 0, 1) := by decide +kernel
theorem dJ3_checkIndex_8e157_5 : decode cJ3_checkIndex_8e157 5 = .ok (.iload_n 1, 1) := by decide +kernel
theorem dJ3_checkIndex_8e157_6 : decode cJ3_checkIndex_8e157 6 = .ok (.if_icmp .lt 10, 3) := by decide +kernel
theorem dJ3_checkIndex_8e157_9 : decode cJ3_checkIndex_8e157 9 = .ok (.aload_n 2, 1) := by decide +kernel
theorem dJ3_checkIndex_8e157_10 : decode cJ3_checkIndex_8e157 10 = .ok (.iload_n 0, 1) := by decide +kernel
theorem dJ3_checkIndex_8e157_11 : decode cJ3_checkIndex_8e157 11 = .ok (.iload_n 1, 1) := by decide +kernel
theorem dJ3_checkIndex_8e157_12 : decode cJ3_checkIndex_8e157 12 = .ok (.invokestatic 95, 3) := by decide +kernel
theorem dJ3_checkIndex_8e157_15 : decode cJ3_checkIndex_8e157 15 = .ok (.athrow, 1) := by decide +kernel
theorem dJ3_checkIndex_8e157_16 : decode cJ3_checkIndex_8e157 16 = .ok (.iload_n 0, 1) := by decide +kernel
theorem dJ3_checkIndex_8e157_17 : decode cJ3_checkIndex_8e157 17 = .ok (.ireturn, 1) := by decide +kernel
def jBs : List Cond := [.fieldLink RJ0 38 RJ0 "COMPACT_STRINGS" "Z", .fieldLink RJ0 15 RJ0 "coder" "B", .fieldLink RJ0 9 RJ0 "value" "[B", .fieldLink RJ0 1053 RJ3 "SIOOBE_FORMATTER" "Ljava/util/function/BiFunction;",
  .methodLink RJ0 335 yJ0_coder_7d493, .methodLink RJ0 492 yJ0_isLatin1_aae02, .methodLink RJ0 495 yJ1_charAt_3b067, .methodLink RJ0 1059 yJ3_checkIndex_8e157, .methodLink RJ1 9 yJ0_checkIndex_df160, .methodLink RX3 102 yJ0_length_8abf5, .methodLink RX3 106 yJ0_charAt_5068e,
  .instanceMethod yJ0_coder_7d493, .instanceMethod yJ0_isLatin1_aae02, .instanceMethod yJ0_length_8abf5, .instanceMethod yJ0_charAt_5068e, .selects RJ0 yJ0_coder_7d493 yJ0_coder_7d493, .selects RJ0 yJ0_isLatin1_aae02 yJ0_isLatin1_aae02, .selects RJ0 yJ0_length_8abf5 yJ0_length_8abf5, .selects RJ0 yJ0_charAt_5068e yJ0_charAt_5068e,
  .static yJ1_charAt_3b067, .static yJ3_checkIndex_8e157, .static yJ0_checkIndex_df160, .initialized RJ0, .initialized RJ1, .initialized RJ3,
  .code yJ0_coder_7d493 cJ0_coder_7d493 1 (some .byte), .code yJ0_isLatin1_aae02 cJ0_isLatin1_aae02 1 (some .boolean), .code yJ0_length_8abf5 cJ0_length_8abf5 1 (some .int), .code yJ0_charAt_5068e cJ0_charAt_5068e 2 (some .char), .code yJ1_charAt_3b067 cJ1_charAt_3b067 2 (some .char), .code yJ0_checkIndex_df160 cJ0_checkIndex_df160 2 none, .code yJ3_checkIndex_8e157 cJ3_checkIndex_8e157 3 (some .int)]
theorem jB_ok : jBs.all (fun w => decide (w ∈ lw_tbl) && goodWord w) = true := by decide +kernel
theorem jB_in (k : Nat) {w : Cond} (h : jBs[k]? = some w) : w ∈ mgood := by
  have h2 := List.all_eq_true.mp jB_ok w (List.mem_of_getElem? h)
  simp only [Bool.and_eq_true, decide_eq_true_eq] at h2
  exact mem_good h2.1 h2.2
def roLen : List Nat := [5, 5, 4, 4, 4, 4, 3]
/-- the String constants at a state -/
def jZ (adK adV : Nat → Nat) (A : Nat → Prop) (U : State) : Prop :=
  vk_S 7 roLen roStr adK adV A U U.heap ∧ va_Z RJ0 "COMPACT_STRINGS" "Z" (.int 1) A U U.heap ∧ ∃ v : Value, v.category = 1 ∧ va_Z RJ3 "SIOOBE_FORMATTER" "Ljava/util/function/BiFunction;" v A U U.heap
theorem jZ.on {adK adV : Nat → Nat} {A : Nat → Prop} {s U : State} (hvm : s.vm.Alike U.vm) {H : Heap} {locs : List Loc} (hS : va_S A s.heap H locs) (hU : U.heap = H) (h : jZ adK adV A s) : jZ adK adV A U := by
  subst hU
  obtain ⟨h1, h2, v, h3, h4⟩ := h
  exact ⟨(h1.kept hS.2.1).moved hvm, (h2.kept hS.2.1).moved hvm, v, h3, (h4.kept hS.2.1).moved hvm⟩
def jRm (d : Nat) : Room := { frames := d + 1, cells := 0, slots := 0, locals := 40 + 80 * d }
def jW (y : MethodName) (bs : ByteArray) (n : Nat) (r : Option FieldType) : List Cond := Cond.code y bs n r :: mgood
theorem jW_good {y : MethodName} {bs : ByteArray} {n : Nat} {r : Option FieldType} (h : Cond.code y bs n r ∈ mgood) : GoodIn mgood (jW y bs n r) := fun w hw => by
  rcases List.mem_cons.mp hw with q | q
  · rw [q]; exact mgood_self _ h
  · exact mgood_self _ q
def jPc (adK adV : Nat → Nat) (B : Nat) (as : List Value) : Array Value → State → Prop := va_Pc as (fun U => jZ adK adV (fun q => B ≤ q) U)
def jQc (v : Option Value) : Array Value → State → Outcome → State → Prop := fun _ st oc t => oc = .returned v ∧ t.heap = st.heap
theorem jPc.blind {adK adV : Nat → Nat} {B : Nat} {as : List Value} : FrameBlind (jPc adK adV B as) := by
  intro a U g mk q
  exact ⟨q.1, q.2.on (U := U.calling g mk a) (Vm.Alike.refl U.vm) va_S.rf rfl⟩
theorem jL {as : List Value} {n : Nat} (h : (lg_sl as).length ≤ n) : ∀ q ∈ lv_args 0 as, ((lg_sl as ++ List.replicate (n - (lg_sl as).length) Slot.unset).toArray)[q.1]? = some (.val q.2) := fun q hq => (lv_entry as h).2.2 q hq
theorem jLs {as : List Value} {n : Nat} (h : (lg_sl as).length ≤ n) : ((lg_sl as ++ List.replicate (n - (lg_sl as).length) Slot.unset).toArray).size = n := (lv_entry as h).1
section JDK
variable {p : Program} {l : Launch} {e : Env} {R : Room} {s : State} {m : MethodId} {args : Array Value} {below : List Frame} {meth : Method} {c : Code} {H : Heap} {locs : List Loc} {nc ns : Nat} {Q : State → Prop} {pc : Nat} {ls : Array Slot}
variable {adK adV : Nat → Nat} {B i : Nat}
/-- behind a call that writes nothing -/
theorem j_back {v : Option Value} {a : Array Value} {A : Nat → Prop} {H0 : Heap} {st0 rest : List Value} (hS : va_S A H0 H locs) (hr : va_Run p l e R s m args below meth c H locs nc ns 0 0 (F0 m pc ls st0) rest (jQc v a) A)
    (k : ∀ locs', va_S A H0 H locs' → W p l e R s m args below meth c H locs' nc ns Q (F0 m (pc + 3) ls (v.toList ++ rest))) : W p l e R s m args below meth c H locs nc ns Q (F0 m pc ls st0) := by
  intro T hT X
  obtain ⟨v', st₀, t, T', L, h0, X', hL, e1, e2, ⟨hv, hm⟩, st⟩ := hr T hT X
  cases hv
  have hS' : va_S A H0 H (locs ++ L) := by
    refine ⟨hS.1, hS.2.1, fun q hq => ?_⟩
    rcases List.mem_append.mp hq with h | h
    · exact hS.2.2 q h
    · exact hL q h
  obtain ⟨t2, a1, b1⟩ := k (locs ++ L) hS' T' (by rw [e1, hm, h0]) X'
  exact ⟨t2, st t2 a1, b1⟩
theorem j_key {A : Nat → Prop} (hZ : jZ adK adV A s) (hS : va_S A s.heap H locs) : ∀ U : State, U.heap = H → s.WarmedH U.vm → jZ adK adV A U := fun U hU hW => hZ.on hW.alike hS hU
theorem j_isLatin1 (hi : i < 7) : Met l yJ0_isLatin1_aae02 (jW yJ0_isLatin1_aae02 cJ0_isLatin1_aae02 1 (some .boolean)) (jRm 0) (jPc adK adV B [.ref (adK i)]) (jQc (some (.int 1))) 0 0 (fun q => B ≤ q) := by
  refine Met.ofW (cc := cJ0_isLatin1_aae02) (maxL := 1) (ret := some .boolean) (by decide) rfl ?_
  intro p e s m args below meth c s₁ Bd hml hv
  obtain ⟨rfl, hZ⟩ := hv
  have hts : ∀ w ∈ mgood, w.before [Value.ref (adK i)].toArray s = true := fun w hw => atoms_spec (ws := jW yJ0_isLatin1_aae02 cJ0_isLatin1_aae02 1 (some .boolean)) Bd.pre w (List.mem_cons_of_mem _ hw)
  have hown : s.vm.findClass RJ0 = some m.cls := findClass_of_methodNamed Bd.named
  rw [lg_entry_eq]
  have h0 := jL (as := [Value.ref (adK i)]) (n := 1) (Nat.le_refl _) (0, .ref (adK i)) (List.mem_cons_self)
  have hS : va_S (fun q => B ≤ q) s.heap s.heap [] := va_S.rf
  refine va_gets Bd.exec Bd.bytes hZ.2.1 hS hown (hts _ (jB_in 0 rfl)) (fun x h => h) dJ0_isLatin1_aae02_0 ?_
  refine lv_if_eq (tgt := 17) Bd.exec Bd.bytes dJ0_isLatin1_aae02_3 rfl (fun h => absurd h (by decide)) (fun _ => ?_)
  refine lv_aload_n Bd.exec Bd.bytes dJ0_isLatin1_aae02_6 rfl h0 ?_
  refine vk_getf Bd.exec Bd.bytes (hZ.1.1 i hi).2.1 hS hown (hts _ (jB_in 1 rfl)) (fun x h => h) dJ0_isLatin1_aae02_7 ?_
  refine lv_if_ne (tgt := 17) Bd.exec Bd.bytes dJ0_isLatin1_aae02_10 rfl (fun h => absurd rfl h) (fun _ => ?_)
  refine lv_iconst Bd.exec Bd.bytes dJ0_isLatin1_aae02_13 rfl ?_
  refine lv_goto (tgt := 18) Bd.exec Bd.bytes dJ0_isLatin1_aae02_14 rfl ?_
  exact W.zret Bd.exec Bd.bytes Bd.returns (by decide +kernel) (fun t ht _ => ⟨rfl, ht⟩) (fun q w => by cases w) dJ0_isLatin1_aae02_18 Bd.notSynchronized
theorem j_coder (hi : i < 7) : Met l yJ0_coder_7d493 (jW yJ0_coder_7d493 cJ0_coder_7d493 1 (some .byte)) (jRm 0) (jPc adK adV B [.ref (adK i)]) (jQc (some (.int 0))) 0 0 (fun q => B ≤ q) := by
  refine Met.ofW (cc := cJ0_coder_7d493) (maxL := 1) (ret := some .byte) (by decide) rfl ?_
  intro p e s m args below meth c s₁ Bd hml hv
  obtain ⟨rfl, hZ⟩ := hv
  have hts : ∀ w ∈ mgood, w.before [Value.ref (adK i)].toArray s = true := fun w hw => atoms_spec (ws := jW yJ0_coder_7d493 cJ0_coder_7d493 1 (some .byte)) Bd.pre w (List.mem_cons_of_mem _ hw)
  have hown : s.vm.findClass RJ0 = some m.cls := findClass_of_methodNamed Bd.named
  rw [lg_entry_eq]
  have h0 := jL (as := [Value.ref (adK i)]) (n := 1) (Nat.le_refl _) (0, .ref (adK i)) (List.mem_cons_self)
  have hS : va_S (fun q => B ≤ q) s.heap s.heap [] := va_S.rf
  refine va_gets Bd.exec Bd.bytes hZ.2.1 hS hown (hts _ (jB_in 0 rfl)) (fun x h => h) dJ0_coder_7d493_0 ?_
  refine lv_if_eq (tgt := 13) Bd.exec Bd.bytes dJ0_coder_7d493_3 rfl (fun h => absurd h (by decide)) (fun _ => ?_)
  refine lv_aload_n Bd.exec Bd.bytes dJ0_coder_7d493_6 rfl h0 ?_
  refine vk_getf Bd.exec Bd.bytes (hZ.1.1 i hi).2.1 hS hown (hts _ (jB_in 1 rfl)) (fun x h => h) dJ0_coder_7d493_7 ?_
  refine lv_goto (tgt := 14) Bd.exec Bd.bytes dJ0_coder_7d493_10 rfl ?_
  exact W.zret Bd.exec Bd.bytes Bd.returns (by decide +kernel) (fun t ht _ => ⟨rfl, ht⟩) (fun q w => by cases w) dJ0_coder_7d493_14 Bd.notSynchronized
theorem j_pcheck {x n : Int32} {v : Value} (hv1 : v.category = 1) (h0 : ¬ x < 0) (hn : x < n) : Met l yJ3_checkIndex_8e157 (jW yJ3_checkIndex_8e157 cJ3_checkIndex_8e157 3 (some .int)) (jRm 0) (jPc adK adV B [.int x, .int n, v]) (jQc (some (.int x))) 0 0 (fun q => B ≤ q) := by
  refine Met.ofW (cc := cJ3_checkIndex_8e157) (maxL := 3) (ret := some .int) (by decide) rfl ?_
  intro p e s m args below meth c s₁ Bd hml hv
  obtain ⟨rfl, hZ⟩ := hv
  rw [lg_entry_eq]
  have hlen : (lg_sl [Value.int x, Value.int n, v]).length ≤ 3 := by
    have e : ∀ w : Value, w.category = 1 → (lg_sl [Value.int x, Value.int n, w]).length = 3 := fun w hw => by cases w <;> first | rfl | cases hw
    rw [e v hv1]; exact Nat.le_refl 3
  have l0 := jL (as := [Value.int x, Value.int n, v]) (n := 3) hlen (0, .int x) (List.mem_cons_self)
  have l1 := jL (as := [Value.int x, Value.int n, v]) (n := 3) hlen (1, .int n) (List.mem_cons_of_mem _ List.mem_cons_self)
  refine lv_iload_n Bd.exec Bd.bytes dJ3_checkIndex_8e157_0 rfl l0 ?_
  refine lv_if_lt (tgt := 9) Bd.exec Bd.bytes dJ3_checkIndex_8e157_1 rfl (fun h => absurd h h0) (fun _ => ?_)
  refine lv_iload_n Bd.exec Bd.bytes dJ3_checkIndex_8e157_4 rfl l0 ?_
  refine lv_iload_n Bd.exec Bd.bytes dJ3_checkIndex_8e157_5 rfl l1 ?_
  refine lv_icmp_lt (tgt := 16) Bd.exec Bd.bytes dJ3_checkIndex_8e157_6 rfl (fun _ => ?_) (fun h => absurd hn h)
  refine lv_iload_n Bd.exec Bd.bytes dJ3_checkIndex_8e157_16 rfl l0 ?_
  exact W.iret Bd.exec Bd.bytes Bd.returns (fun t ht _ => ⟨rfl, ht⟩) (fun q w => by cases w) dJ3_checkIndex_8e157_17 Bd.notSynchronized
theorem j_scheck {x n : Int32} (h0 : ¬ x < 0) (hn : x < n) : Met l yJ0_checkIndex_df160 (jW yJ0_checkIndex_df160 cJ0_checkIndex_df160 2 none) (jRm 1) (jPc adK adV B [.int x, .int n]) (jQc none) 0 0 (fun q => B ≤ q) := by
  refine Met.ofW (cc := cJ0_checkIndex_df160) (maxL := 2) (ret := none) (by decide) rfl ?_
  intro p e s m args below meth c s₁ Bd hml hv
  obtain ⟨rfl, hZ⟩ := hv
  have hts : ∀ w ∈ mgood, w.before [Value.int x, Value.int n].toArray s = true := fun w hw => atoms_spec (ws := jW yJ0_checkIndex_df160 cJ0_checkIndex_df160 2 none) Bd.pre w (List.mem_cons_of_mem _ hw)
  have hown : s.vm.findClass RJ0 = some m.cls := findClass_of_methodNamed Bd.named
  rw [lg_entry_eq]
  have l0 := jL (as := [Value.int x, Value.int n]) (n := 2) (Nat.le_refl _) (0, .int x) (List.mem_cons_self)
  have l1 := jL (as := [Value.int x, Value.int n]) (n := 2) (Nat.le_refl _) (1, .int n) (List.mem_cons_of_mem _ List.mem_cons_self)
  have hls := jLs (as := [Value.int x, Value.int n]) (n := 2) (Nat.le_refl _)
  have hS : va_S (fun q => B ≤ q) s.heap s.heap [] := va_S.rf
  obtain ⟨v, hv1, hv2⟩ := hZ.2.2
  refine lv_iload_n Bd.exec Bd.bytes dJ0_checkIndex_df160_0 rfl l0 ?_
  refine lv_iload_n Bd.exec Bd.bytes dJ0_checkIndex_df160_1 rfl l1 ?_
  refine va_gets Bd.exec Bd.bytes hv2 hS hown (hts _ (jB_in 3 rfl)) (fun x h => h) dJ0_checkIndex_df160_2 ?_
  have cb := callB_of (R := jRm 1) (own := RJ0) (index := 1059) (y := yJ3_checkIndex_8e157) (bytes := cJ3_checkIndex_8e157) (maxL := 3) (ret := some .int) (ws := jW yJ3_checkIndex_8e157 cJ3_checkIndex_8e157 3 (some .int)) (ws' := mgood) (rm := jRm 0) (mc := 0) (ms := 0) 3 hts (jW_good (jB_in 31 rfl)) rfl rfl rfl (hts _ (jB_in 24 rfl)) (hts _ (jB_in 7 rfl)) ⟨by decide, by decide, by decide +kernel⟩ (by decide)
  refine j_back hS (va_runS (S := ⟨Bd.exec, Bd.bytes, hml, hown, hts⟩) (j_pcheck (adK := adK) (adV := adV) (B := B) hv1 h0 hn) ⟨cb, hts _ (jB_in 20 rfl)⟩ ⟨jPc.blind, fun U hU hW => ⟨rfl, j_key hZ hS U hU hW⟩⟩ rfl rfl hls (As := [.int x, .int n, v]) (rest := []) rfl (lv_room (by decide)) dJ0_checkIndex_df160_5 ⟨by decide, by decide⟩) (fun locs' hS' => ?_)
  refine lv_pop (va := .int x) Bd.exec Bd.bytes dJ0_checkIndex_df160_8 rfl ?_
  exact W.vret Bd.exec Bd.bytes Bd.returns (fun t ht _ => ⟨rfl, ht⟩) hS'.2.2 dJ0_checkIndex_df160_9 Bd.notSynchronized
theorem ro_len (hi : i < 7) : roLen.getD i 0 = (roStr.getD i []).length := by
  match i, hi with
  | 0, _ => rfl
  | 1, _ => rfl
  | 2, _ => rfl
  | 3, _ => rfl
  | 4, _ => rfl
  | 5, _ => rfl
  | 6, _ => rfl
theorem ro_char : roStr.all (fun t => t.all (fun x => decide (((x &&& 255).toUInt32 % 65536).toInt32 = x) && decide (narrow .char (.int x) = .int x))) = true := by decide +kernel
theorem getD_in {l : List Int32} {j : Nat} (h : j < l.length) : l.getD j 0 ∈ l := by
  rw [List.getD_eq_getElem?_getD, List.getElem?_eq_getElem h]; exact List.getElem_mem _
theorem ro_ch {j : Nat} (hi : i < 7) (hj : j < (roStr.getD i []).length) : (((roStr.getD i []).getD j 0 &&& 255).toUInt32 % 65536).toInt32 = (roStr.getD i []).getD j 0 ∧ narrow .char (.int ((roStr.getD i []).getD j 0)) = .int ((roStr.getD i []).getD j 0) := by
  have h1 : roStr.getD i [] ∈ roStr := by
    have hi' : i < roStr.length := hi
    rw [List.getD_eq_getElem?_getD, List.getElem?_eq_getElem hi']; exact List.getElem_mem _
  have h2 := List.all_eq_true.mp ro_char _ h1
  have h3 : (roStr.getD i []).getD j 0 ∈ roStr.getD i [] := getD_in hj
  have h4 := List.all_eq_true.mp h2 _ h3
  simp only [Bool.and_eq_true, decide_eq_true_eq] at h4
  exact h4
theorem ro_small (hi : i < 7) : (roStr.getD i []).length < 2 ^ 31 := by
  rw [← ro_len hi]
  match i, hi with
  | 0, _ => decide
  | 1, _ => decide
  | 2, _ => decide
  | 3, _ => decide
  | 4, _ => decide
  | 5, _ => decide
  | 6, _ => decide
theorem j_lat {x : Int32} {j : Nat} (hi : i < 7) (hx : midx x (roStr.getD i []).length = some j) : Met l yJ1_charAt_3b067 (jW yJ1_charAt_3b067 cJ1_charAt_3b067 2 (some .char)) (jRm 2) (jPc adK adV B [.ref (adV i), .int x]) (jQc (some (.int ((roStr.getD i []).getD j 0)))) 0 0 (fun q => B ≤ q) := by
  refine Met.ofW (cc := cJ1_charAt_3b067) (maxL := 2) (ret := some .char) (by decide) rfl ?_
  intro p e s m args below meth c s₁ Bd hml hv
  obtain ⟨rfl, hZ⟩ := hv
  have hts : ∀ w ∈ mgood, w.before [Value.ref (adV i), Value.int x].toArray s = true := fun w hw => atoms_spec (ws := jW yJ1_charAt_3b067 cJ1_charAt_3b067 2 (some .char)) Bd.pre w (List.mem_cons_of_mem _ hw)
  have hown : s.vm.findClass RJ1 = some m.cls := findClass_of_methodNamed Bd.named
  rw [lg_entry_eq]
  have l0 := jL (as := [Value.ref (adV i), Value.int x]) (n := 2) (Nat.le_refl _) (0, .ref (adV i)) (List.mem_cons_self)
  have l1 := jL (as := [Value.ref (adV i), Value.int x]) (n := 2) (Nat.le_refl _) (1, .int x) (List.mem_cons_of_mem _ List.mem_cons_self)
  have hls := jLs (as := [Value.ref (adV i), Value.int x]) (n := 2) (Nat.le_refl _)
  have hS : va_S (fun q => B ≤ q) s.heap s.heap [] := va_S.rf
  obtain ⟨hin, hjx, hjn⟩ := midx_inv hx
  have hT := (hZ.1.1 i hi).2.2.2
  rw [ro_len hi] at hT
  have h0 : ¬ x < 0 := fun h => hin (Or.inl h)
  have hn : x < Int32.ofNat (roStr.getD i []).length := by
    rw [Int32.lt_iff_toInt_lt]
    have e1 : x.toInt = ((x.toNatClampNeg : Nat) : Int) := by
      have hz0 : (0 : Int) ≤ x.toInt := by
        have := Int32.not_lt.mp h0
        simpa using Int32.le_iff_toInt_le.mp this
      show x.toInt = ((x.toInt.toNat : Nat) : Int)
      omega
    have e2 : (Int32.ofNat (roStr.getD i []).length).toInt = ((roStr.getD i []).length : Int) := Int32.toInt_ofNat_of_lt (ro_small hi)
    rw [e1, e2, hjx]
    exact Int.ofNat_lt.mpr hjn
  refine lv_iload_n Bd.exec Bd.bytes dJ1_charAt_3b067_0 rfl l1 ?_
  refine lv_aload_n Bd.exec Bd.bytes dJ1_charAt_3b067_1 rfl l0 ?_
  refine va_tlen Bd.exec Bd.bytes hT hS rfl dJ1_charAt_3b067_2 ?_
  have cb := callB_of (R := jRm 2) (own := RJ1) (index := 9) (y := yJ0_checkIndex_df160) (bytes := cJ0_checkIndex_df160) (maxL := 2) (ret := none) (ws := jW yJ0_checkIndex_df160 cJ0_checkIndex_df160 2 none) (ws' := mgood) (rm := jRm 1) (mc := 0) (ms := 0) 2 hts (jW_good (jB_in 30 rfl)) rfl rfl rfl (hts _ (jB_in 22 rfl)) (hts _ (jB_in 8 rfl)) ⟨by decide, by decide, by decide +kernel⟩ (by decide)
  refine j_back hS (va_runS (S := ⟨Bd.exec, Bd.bytes, hml, hown, hts⟩) (j_scheck (adK := adK) (adV := adV) (B := B) h0 hn) ⟨cb, hts _ (jB_in 21 rfl)⟩ ⟨jPc.blind, fun U hU hW => ⟨rfl, j_key hZ hS U hU hW⟩⟩ rfl rfl hls (As := [.int x, .int (Int32.ofNat (roStr.getD i []).length)]) (rest := []) rfl (lv_room (by decide)) dJ1_charAt_3b067_3 ⟨by decide, by decide⟩) (fun locs' hS' => ?_)
  refine lv_aload_n Bd.exec Bd.bytes dJ1_charAt_3b067_6 rfl l0 ?_
  refine lv_iload_n Bd.exec Bd.bytes dJ1_charAt_3b067_7 rfl l1 ?_
  refine va_tb Bd.exec Bd.bytes hT hS' hin (v := .int ((roStr.getD i []).getD j 0)) (by rw [hjx]) dJ1_charAt_3b067_8 ?_
  refine lv_sipush Bd.exec Bd.bytes dJ1_charAt_3b067_9 rfl ?_
  refine lv_iand Bd.exec Bd.bytes dJ1_charAt_3b067_12 ?_
  refine lv_i2c Bd.exec Bd.bytes dJ1_charAt_3b067_13 rfl ?_
  obtain ⟨c1, c2⟩ := ro_ch (i := i) hi hjn
  have e : (((roStr.getD i []).getD j 0 &&& (Int16.ofInt 255).toInt32).toUInt32 % 65536).toInt32 = (roStr.getD i []).getD j 0 := c1
  rw [e]
  exact W.zret Bd.exec Bd.bytes Bd.returns c2 (fun t ht _ => ⟨rfl, ht⟩) hS'.2.2 dJ1_charAt_3b067_14 Bd.notSynchronized
theorem ro_shr : (List.range 7).all (fun i => decide (Int32.ofNat (roStr.getD i []).length >>> ((0 : Int32) &&& 31) = Int32.ofNat (roStr.getD i []).length)) = true := by decide +kernel
theorem j_length (hi : i < 7) : Met l yJ0_length_8abf5 (jW yJ0_length_8abf5 cJ0_length_8abf5 1 (some .int)) (jRm 1) (jPc adK adV B [.ref (adK i)]) (jQc (some (.int (Int32.ofNat (roStr.getD i []).length)))) 0 0 (fun q => B ≤ q) := by
  refine Met.ofW (cc := cJ0_length_8abf5) (maxL := 1) (ret := some .int) (by decide) rfl ?_
  intro p e s m args below meth c s₁ Bd hml hv
  obtain ⟨rfl, hZ⟩ := hv
  have hts : ∀ w ∈ mgood, w.before [Value.ref (adK i)].toArray s = true := fun w hw => atoms_spec (ws := jW yJ0_length_8abf5 cJ0_length_8abf5 1 (some .int)) Bd.pre w (List.mem_cons_of_mem _ hw)
  have hown : s.vm.findClass RJ0 = some m.cls := findClass_of_methodNamed Bd.named
  rw [lg_entry_eq]
  have l0 := jL (as := [Value.ref (adK i)]) (n := 1) (Nat.le_refl _) (0, .ref (adK i)) (List.mem_cons_self)
  have hls := jLs (as := [Value.ref (adK i)]) (n := 1) (Nat.le_refl _)
  have hS : va_S (fun q => B ≤ q) s.heap s.heap [] := va_S.rf
  have hT := (hZ.1.1 i hi).2.2.2
  rw [ro_len hi] at hT
  refine lv_aload_n Bd.exec Bd.bytes dJ0_length_8abf5_0 rfl l0 ?_
  refine vk_getf Bd.exec Bd.bytes (hZ.1.1 i hi).2.2.1 hS hown (hts _ (jB_in 2 rfl)) (fun x h => h) dJ0_length_8abf5_1 ?_
  refine va_tlen Bd.exec Bd.bytes hT hS rfl dJ0_length_8abf5_4 ?_
  refine lv_aload_n Bd.exec Bd.bytes dJ0_length_8abf5_5 rfl l0 ?_
  have cb := callB_of (R := jRm 1) (own := RJ0) (index := 335) (y := yJ0_coder_7d493) (bytes := cJ0_coder_7d493) (maxL := 1) (ret := some .byte) (ws := jW yJ0_coder_7d493 cJ0_coder_7d493 1 (some .byte)) (ws' := mgood) (rm := jRm 0) (mc := 0) (ms := 0) 0 hts (jW_good (jB_in 25 rfl)) rfl rfl rfl (hts _ (jB_in 22 rfl)) (hts _ (jB_in 4 rfl)) ⟨by decide, by decide, by decide +kernel⟩ (by decide)
  refine j_back hS (va_runV (S := ⟨Bd.exec, Bd.bytes, hml, hown, hts⟩) (j_coder (adK := adK) (adV := adV) (B := B) hi) ⟨cb, hts _ (jB_in 11 rfl), hts _ (jB_in 15 rfl)⟩ ⟨jPc.blind, vk_recv hZ.1 hi hS, fun U hU hW => ⟨rfl, j_key hZ hS U hU hW⟩⟩ rfl rfl hls (As := []) (rest := [.int (Int32.ofNat (roStr.getD i []).length)]) rfl (lv_room (show 1 + 0 ≤ 8 by decide)) dJ0_length_8abf5_6 ⟨by decide, by decide⟩) (fun locs' hS' => ?_)
  refine lv_ishr Bd.exec Bd.bytes dJ0_length_8abf5_9 ?_
  have e : Int32.ofNat (roStr.getD i []).length >>> ((0 : Int32) &&& 31) = Int32.ofNat (roStr.getD i []).length := of_decide_eq_true (List.all_eq_true.mp ro_shr i (List.mem_range.mpr hi))
  rw [e]
  exact W.iret Bd.exec Bd.bytes Bd.returns (fun t ht _ => ⟨rfl, ht⟩) hS'.2.2 dJ0_length_8abf5_10 Bd.notSynchronized
theorem j_charAt {x : Int32} {j : Nat} (hi : i < 7) (hx : midx x (roStr.getD i []).length = some j) : Met l yJ0_charAt_5068e (jW yJ0_charAt_5068e cJ0_charAt_5068e 2 (some .char)) (jRm 3) (jPc adK adV B [.ref (adK i), .int x]) (jQc (some (.int ((roStr.getD i []).getD j 0)))) 0 0 (fun q => B ≤ q) := by
  refine Met.ofW (cc := cJ0_charAt_5068e) (maxL := 2) (ret := some .char) (by decide) rfl ?_
  intro p e s m args below meth c s₁ Bd hml hv
  obtain ⟨rfl, hZ⟩ := hv
  have hts : ∀ w ∈ mgood, w.before [Value.ref (adK i), Value.int x].toArray s = true := fun w hw => atoms_spec (ws := jW yJ0_charAt_5068e cJ0_charAt_5068e 2 (some .char)) Bd.pre w (List.mem_cons_of_mem _ hw)
  have hown : s.vm.findClass RJ0 = some m.cls := findClass_of_methodNamed Bd.named
  rw [lg_entry_eq]
  have l0 := jL (as := [Value.ref (adK i), Value.int x]) (n := 2) (Nat.le_refl _) (0, .ref (adK i)) (List.mem_cons_self)
  have l1 := jL (as := [Value.ref (adK i), Value.int x]) (n := 2) (Nat.le_refl _) (1, .int x) (List.mem_cons_of_mem _ List.mem_cons_self)
  have hls := jLs (as := [Value.ref (adK i), Value.int x]) (n := 2) (Nat.le_refl _)
  have hS : va_S (fun q => B ≤ q) s.heap s.heap [] := va_S.rf
  refine lv_aload_n Bd.exec Bd.bytes dJ0_charAt_5068e_0 rfl l0 ?_
  have cb := callB_of (R := jRm 3) (own := RJ0) (index := 492) (y := yJ0_isLatin1_aae02) (bytes := cJ0_isLatin1_aae02) (maxL := 1) (ret := some .boolean) (ws := jW yJ0_isLatin1_aae02 cJ0_isLatin1_aae02 1 (some .boolean)) (ws' := mgood) (rm := jRm 0) (mc := 0) (ms := 0) 0 hts (jW_good (jB_in 26 rfl)) rfl rfl rfl (hts _ (jB_in 22 rfl)) (hts _ (jB_in 5 rfl)) ⟨by decide, by decide, by decide +kernel⟩ (by decide)
  refine j_back hS (va_runV (S := ⟨Bd.exec, Bd.bytes, hml, hown, hts⟩) (j_isLatin1 (adK := adK) (adV := adV) (B := B) hi) ⟨cb, hts _ (jB_in 12 rfl), hts _ (jB_in 16 rfl)⟩ ⟨jPc.blind, vk_recv hZ.1 hi hS, fun U hU hW => ⟨rfl, j_key hZ hS U hU hW⟩⟩ rfl rfl hls (As := []) (rest := []) rfl (lv_room (by decide)) dJ0_charAt_5068e_1 ⟨by decide, by decide⟩) (fun locs' hS' => ?_)
  refine lv_if_eq (tgt := 16) Bd.exec Bd.bytes dJ0_charAt_5068e_4 rfl (fun h => absurd h (by decide)) (fun _ => ?_)
  refine lv_aload_n Bd.exec Bd.bytes dJ0_charAt_5068e_7 rfl l0 ?_
  refine vk_getf Bd.exec Bd.bytes (hZ.1.1 i hi).2.2.1 hS' hown (hts _ (jB_in 2 rfl)) (fun x h => h) dJ0_charAt_5068e_8 ?_
  refine lv_iload_n Bd.exec Bd.bytes dJ0_charAt_5068e_11 rfl l1 ?_
  have cb := callB_of (R := jRm 3) (own := RJ0) (index := 495) (y := yJ1_charAt_3b067) (bytes := cJ1_charAt_3b067) (maxL := 2) (ret := some .char) (ws := jW yJ1_charAt_3b067 cJ1_charAt_3b067 2 (some .char)) (ws' := mgood) (rm := jRm 2) (mc := 0) (ms := 0) 2 hts (jW_good (jB_in 29 rfl)) rfl rfl rfl (hts _ (jB_in 23 rfl)) (hts _ (jB_in 6 rfl)) ⟨by decide, by decide, by decide +kernel⟩ (by decide)
  refine j_back hS' (va_runS (S := ⟨Bd.exec, Bd.bytes, hml, hown, hts⟩) (j_lat (adK := adK) (adV := adV) (B := B) hi hx) ⟨cb, hts _ (jB_in 19 rfl)⟩ ⟨jPc.blind, fun U hU hW => ⟨rfl, j_key hZ hS' U hU hW⟩⟩ rfl rfl hls (As := [.ref (adV i), .int x]) (rest := []) rfl (lv_room (by decide)) dJ0_charAt_5068e_12 ⟨by decide, by decide⟩) (fun locs' hS' => ?_)
  obtain ⟨-, -, hjn⟩ := midx_inv hx
  exact W.zret Bd.exec Bd.bytes Bd.returns (ro_ch hi hjn).2 (fun t ht _ => ⟨rfl, ht⟩) hS'.2.2 dJ0_charAt_5068e_15 Bd.notSynchronized
end JDK
