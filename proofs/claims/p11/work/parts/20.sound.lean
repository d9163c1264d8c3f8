/-! SOUND: what the mini machine runs to its end, the machine does -/
section SND
variable {p : Program} {l : Launch} {e : Env} {R : Room} {s : State} {m : MethodId} {args : Array Value} {below : List Frame} {meth : Method} {c : Code} {Q : State → Prop}
variable {D : va_G} {tc : Nat → ClassId} {ad : Nat → Nat} {B : Nat} {scr sc : List Int32} {H0 : Heap} {y : Nat}
theorem m_walk (C : mCtx p s m args meth c y D tc) (hB0 : B ≤ H0.size) (hro : mro ad (fun q => B ≤ q) s) (hH0 : H0 = s.heap) (hsc : y = 184 → va_X (ad 0) sc.length (fun j => sc.getD j 0) s H0 ∧ ad 0 < H0.size ∧ ¬ B ≤ ad 0) (N : Nat)
    (IH : ∀ n, n < N → ∀ (d y : Nat) (as : List Value) (hs : mH) (r : Option Value) (hs' : mH) (mc ms : Nat), y < 184 → (margs as).length ≤ mmaxL y → mrun sc n d y (mentry y as hs) = some (r, hs', mc, ms) → mMet l D tc ad B scr d y as hs r hs' mc ms)
    {d : Nat} (hR : d + 5 ≤ R.frames ∧ 360 + 80 * d ≤ R.locals) {r : Option Value} {hs' : mH} {mc ms : Nat} (hcm : mc ≤ R.cells) (hsm : ms ≤ R.slots)
    (hret : ∀ (pc : Nat) (ins : Instr) (H' : Heap) (locs' : List Loc) (ls' : Array Slot), decode (mbytes y) pc = .ok (ins, 1) → mretI y r ins → mSt D tc ad (fun q => B ≤ q) scr H0 hs' H' locs' → W p l e R s m args below meth c H' locs' mc ms Q (F0 m pc ls' (r.toList.map (cV ad)))) :
    ∀ n, n ≤ N → ∀ (q : mS) (H : Heap) (locs : List Loc) (ls : Array Slot), mrun sc n d y q = some (r, hs', mc, ms) → mSt D tc ad (fun q => B ≤ q) scr H0 q.2.2.2.1 H locs → mLoc ad q.2.1 (mmaxL y) ls → W p l e R s m args below meth c H locs q.2.2.2.2.1 q.2.2.2.2.2 Q (F0 m q.1 ls (q.2.2.1.map (cV ad))) := by
  intro n
  induction n with
  | zero => intro _ q H locs ls h; cases h
  | succ n ih =>
    intro hn q H locs ls h hst hl
    obtain ⟨pc, loc, stk, hs, nc, ns⟩ := q
    rcases mrun_inv h with ⟨q', h1, h2, h3⟩ | ⟨v, h1, h2⟩ | ⟨y', as, q', d', v, hs1, c1, s1, h1, h2, h3, h4, h5⟩
    · obtain ⟨ins, len, a, b, z, hd, hk, hx⟩ := mstep_inv h1
      have hm := mrun_mono h3
      exact m_next C hst hl ⟨by omega, by omega⟩ hro hH0 ⟨B, rfl⟩ hsc hd hk hx (by have := hm.1; dsimp only at this; omega) (by have := hm.2; dsimp only at this; omega) (fun H' locs' ls' hst' hl' => ih (by omega) q' H' locs' ls' h3 hst' hl')
    · obtain ⟨ins, len, a, b, z, hd, hk, hx⟩ := mstep_inv h1
      obtain ⟨rfl, hr, hstk⟩ := mret_inv hk hx
      cases h2
      rw [hstk]
      exact hret pc ins H locs ls hd hr hst
    · obtain ⟨ins, len, a, b, z, hd, hk, hx⟩ := mstep_inv h1
      obtain ⟨rfl, hy', idx, as', rest, rfl, hcat, hlen, hcase⟩ := mcall_inv hk hx
      subst h2
      have hM := IH n (by omega) d' y' as hs v hs1 c1 s1 hy' h4.2 h3
      have hm := mrun_mono h5
      have hf : nc + c1 ≤ R.cells ∧ ns + s1 ≤ R.slots := by
        have a1 := hm.1
        have a2 := hm.2
        dsimp only at a1 a2
        omega
      have k : ∀ H' locs', mSt D tc ad (fun q => B ≤ q) scr H0 hs1 H' locs' → W p l e R s m args below meth c H' locs' (nc + c1) (ns + s1) Q (F0 m (pc + 3) ls ((v.map (cV ad)).toList ++ rest.map (cV ad))) := by
        intro H' locs' hst'
        have := ih (by omega) (pc + 3, loc, v.toList ++ rest, hs1, nc + c1, ns + s1) H' locs' ls h5 hst' hl
        rw [← optmap]
        exact this
      have hR' : d' + 6 ≤ R.frames ∧ 360 + 80 * (d' + 1) ≤ R.locals := ⟨by omega, by omega⟩
      rcases hcase with ⟨rfl, g1, g2, g3, rr, vs, rfl, rfl, g4⟩ | ⟨rfl, g1, g2, rfl, rfl⟩ | ⟨rfl, g1, g2, rr, rfl, rfl⟩
      · show W p l e R s m args below meth c H locs nc ns Q (F0 m pc ls ((as'.reverse ++ .ref rr :: rest).map (cV ad)))
        rw [cV_rev]
        exact m_callV C hst hB0 hro hH0 hl.1 hR' hd hy' hM hf g1 g2 hlen hcat g4 g3 k
      · show W p l e R s m args below meth c H locs nc ns Q (F0 m pc ls ((as.reverse ++ rest).map (cV ad)))
        rw [cV_rev]
        exact m_callS C hst hB0 hro hH0 hl.1 hR' hd hy' hM hf g1 g2 hlen hcat k
      · show W p l e R s m args below meth c H locs nc ns Q (F0 m pc ls ((as'.reverse ++ .ref rr :: rest).map (cV ad)))
        rw [cV_rev]
        exact m_callI C hst hB0 hro hH0 hl.1 hR' hd hy' hM hf g1 g2 hlen hcat k
theorem margs_sl : ∀ as : List Value, (margs as).length = (lg_sl (as.map (cV ad))).length
  | [] => rfl
  | v :: vs => by
    have ih := margs_sl vs
    simp only [lg_sl, List.map_cons, List.flatMap_cons, List.length_append, margs, cV_cat] at ih ⊢
    cases q : Nat.beq v.category 2 with
    | true => rw [cond_true, if_pos (beqN q)]; simp only [List.length_cons, List.length_nil]; omega
    | false =>
      rw [cond_false, if_neg (fun w => by rw [w] at q; cases q)]; simp only [List.length_cons, List.length_nil]; omega
theorem margs_in : ∀ (as : List Value) (o i : Nat) (v : Value), (margs as)[i]? = some (some v) → (o + i, cV ad v) ∈ lv_args o (as.map (cV ad))
  | [], o, i, v, h => by simp [margs] at h
  | w :: vs, o, i, v, h => by
    rw [List.map_cons, lv_args, cV_cat]
    rw [margs] at h
    cases q : Nat.beq w.category 2 with
    | true =>
      rw [q, cond_true] at h
      rw [if_pos (beqN q)]
      match i, h with
      | 0, h => simp only [List.getElem?_cons_zero, Option.some.injEq] at h; subst h; exact List.mem_cons_self
      | 1, h => simp at h
      | i + 2, h =>
        have h' : (margs vs)[i]? = some (some v) := h
        have := margs_in vs (o + 2) i v h'
        rw [show o + (i + 2) = o + 2 + i by omega]
        exact List.mem_cons_of_mem _ this
    | false =>
      rw [q, cond_false] at h
      rw [if_neg (fun z => by rw [z] at q; cases q)]
      match i, h with
      | 0, h => simp only [List.getElem?_cons_zero, Option.some.injEq] at h; subst h; exact List.mem_cons_self
      | i + 1, h =>
        have h' : (margs vs)[i]? = some (some v) := h
        have := margs_in vs (o + 1) i v h'
        rw [show o + (i + 1) = o + 1 + i by omega]
        exact List.mem_cons_of_mem _ this
theorem m_entry {as : List Value} {hs : mH} (hlen : (margs as).length ≤ mmaxL y) : mLoc ad (mentry y as hs).2.1 (mmaxL y) ((lg_sl (as.map (cV ad)) ++ List.replicate (mmaxL y - (lg_sl (as.map (cV ad))).length) Slot.unset).toArray) := by
  have h := lv_entry (as.map (cV ad)) (n := mmaxL y) (by rw [← margs_sl]; exact hlen)
  refine ⟨h.1, h.2.1, fun i v hv => ?_⟩
  have hv := mld_iff.mp hv
  have hv : (margs as ++ List.replicate (mmaxL y - (margs as).length) none)[i]? = some (some v) := hv
  by_cases hi : i < (margs as).length
  · rw [List.getElem?_append_left hi] at hv
    have := margs_in (ad := ad) as 0 i v hv
    rw [Nat.zero_add] at this
    exact h.2.2 (i, cV ad v) this
  · rw [List.getElem?_append_right (by omega), List.getElem?_replicate] at hv
    split at hv <;> cases hv
theorem nar01 {x : Int32} (h : x = 0 ∨ x = 1) : narrow .boolean (.int x) = .int x := by
  rcases h with rfl | rfl <;> decide +kernel
theorem m_met : ∀ (n d y : Nat) (as : List Value) (hs : mH) (r : Option Value) (hs' : mH) (mc ms : Nat), y < 184 → (margs as).length ≤ mmaxL y → mrun sc n d y (mentry y as hs) = some (r, hs', mc, ms) → mMet l D tc ad B scr d y as hs r hs' mc ms := by
  intro n
  induction n using Nat.strongRecOn with
  | ind n IH =>
    intro d y as hs r hs' mc ms hy hlen h
    refine Met.ofW (cc := mbytes y) (maxL := mmaxL y) (ret := mret y) (m_plain hy) rfl ?_
    intro p e s m args below meth c s₁ Bd hml hv
    obtain ⟨rfl, hB0, hst, hK, hN, hro⟩ := hv
    have hts0 := atoms_spec (ws := mWs y) Bd.pre
    have hts : ∀ w ∈ mgood, w.before (as.map (cV ad)).toArray s = true := fun w hw => hts0 w (List.mem_cons_of_mem _ hw)
    have hcls : (mname y).cls = mR (mown y) := (m_facts hy hts).2.1
    have hown : s.vm.findClass (mR (mown y)) = some m.cls := by rw [← hcls]; exact findClass_of_methodNamed Bd.named
    have C : mCtx p s m (as.map (cV ad)).toArray meth c y D tc := ⟨Bd.exec, Bd.bytes, hml, hown, hts, hK, hN, fun q => (name_of_methodNamed Bd.named Bd.method).1.trans q⟩
    have hlocks := Bd.notSynchronized
    have hr := Bd.returns
    rw [lg_entry_eq]
    refine m_walk (H0 := s.heap) (scr := scr) (sc := sc) C hB0 hro rfl (fun q => by omega) n IH (d := d) ⟨Nat.le_refl _, Nat.le_refl _⟩ (mc := mc) (ms := ms) (Nat.le_refl _) (Nat.le_refl _) ?_ n (Nat.le_refl _) (mentry y as hs) s.heap [] _ h hst (m_entry hlen)
    intro pc ins H' locs' ls' hd hri hst'
    have hf : ∀ q ∈ locs', (fun q => B ≤ q) q.base := hst'.2.2.1.2.2
    have hq : ∀ t : State, t.heap = H' → s.WarmedH t.vm → mQc D tc ad B scr r hs' (as.map (cV ad)).toArray s (.returned (r.map (cV ad))) t := fun t ht _ =>
      ⟨rfl, by rw [ht]; exact ⟨hst'.1, hst'.2.1, ⟨hst'.2.2.1.1, hst'.2.2.1.2.1, fun _ w => by cases w⟩, hst'.2.2.2⟩⟩
    rcases hri with ⟨rfl, rfl, e1⟩ | ⟨x, rfl, rfl, e1 | ⟨e1, e2⟩⟩ | ⟨x, rfl, rfl, e1⟩ | ⟨x, Cn, rfl, rfl, e1⟩
    · rw [e1] at hr
      exact W.vret Bd.exec Bd.bytes hr hq hf hd hlocks
    · rw [e1] at hr
      exact W.iret Bd.exec Bd.bytes hr hq hf hd hlocks
    · rw [e1] at hr
      exact W.zret Bd.exec Bd.bytes hr (nar01 e2) hq hf hd hlocks
    · rw [e1] at hr
      exact W.lret Bd.exec Bd.bytes hr hq hf hd hlocks
    · rw [e1] at hr
      exact W.aret Bd.exec Bd.bytes hr (Or.inl ⟨_, rfl⟩) (Or.inr ⟨_, rfl⟩) hq hf hd hlocks
end SND
