/-! one instruction over a heap of fixed shape -/
abbrev mX : Type := Option Value × mH × Nat × Nat
section STP
variable {d y pc pc' i a b p n j : Nat} {z : Int} {loc : mL} {st : List Value} {sh : List sD} {σ σ' : sg} {x : mX} {fs : List (Option Nat)}
theorem t_mon {pc pc' : Nat} {l l' : mL} {s s' : List Value} {h h' : mH} {nc ns : Nat} : mmon (pc, l, s, h, nc, ns) (pc', l', s', h', nc, ns) = true := by
  unfold mmon
  rw [Nat.ble_eq_true_of_le (Nat.le_refl _), Nat.ble_eq_true_of_le (Nat.le_refl _)]; rfl
theorem t_fetch {y : Nat} {q : mS} {i : mI} {o : mO} (hf : mfetch y q.1 = some i) (h : mexec [] y i.2.1 i.2.2.2.1 i.2.2.2.2.1 i.2.2.2.2.2 q.1 q.2.1 q.2.2.1 q.2.2.2.1 q.2.2.2.2.1 q.2.2.2.2.2 = some o) : mstep [] y q = some o := by rw [mstep_of hf]; exact h
theorem t_gi (hf : mfetch y pc = some (pc, .getfield i, 3, a, b, z)) (hs : sh[p]? = some (.inr (a, fs))) (hb : fs[b]? = some none) (k : mEnds [] d y (pc + 3, loc, .int (σ p b) :: st, hp sh σ, 0, 0) x) : mEnds [] d y (pc, loc, .ref p :: st, hp sh σ, 0, 0) x := by
  refine mEnds.step (t_fetch hf ?_) t_mon k
  exact (hO_eq (hp_get hs)).trans ((oB_eq (Nat.beq_refl a)).trans ((oV_eq (v := .int (σ p b)) (by rw [List.getElem?_mapIdx, hb]; rfl)).trans rfl))
theorem t_gr {r : Nat} (hf : mfetch y pc = some (pc, .getfield i, 3, a, b, z)) (hs : sh[p]? = some (.inr (a, fs))) (hb : fs[b]? = some (some r)) (k : mEnds [] d y (pc + 3, loc, .ref r :: st, hp sh σ, 0, 0) x) : mEnds [] d y (pc, loc, .ref p :: st, hp sh σ, 0, 0) x := by
  refine mEnds.step (t_fetch hf ?_) t_mon k
  exact (hO_eq (hp_get hs)).trans ((oB_eq (Nat.beq_refl a)).trans ((oV_eq (v := .ref r) (by rw [List.getElem?_mapIdx, hb]; rfl)).trans rfl))
theorem t_pi {v : Int32} (hf : mfetch y pc = some (pc, .putfield i, 3, a, b, z)) (hs : sh[p]? = some (.inr (a, fs))) (hb : fs[b]? = some none) (h3 : Nat.ble mn0 p = true) (hfit : mfit (mty a b) (.int v) = true) (hσ : some (up σ p b v) = some σ') (k : mEnds [] d y (pc + 3, loc, st, hp sh σ', 0, 0) x) : mEnds [] d y (pc, loc, .int v :: .ref p :: st, hp sh σ, 0, 0) x := by
  cases hσ
  refine mEnds.step (t_fetch hf ?_) t_mon k
  have hl : b < (fs.mapIdx (hv σ p)).length := by rw [List.length_mapIdx]; exact (List.getElem?_eq_some_iff.mp hb).1
  refine (oB_eq h3).trans ((hO_eq (hp_get hs)).trans ((oB_eq (Nat.beq_refl a)).trans ((oB_eq (blt_of hl)).trans ((oB_eq hfit).trans ?_))))
  rw [hp_setF hs hb]; rfl
theorem t_ia {ix : Int32} (hf : mfetch y pc = some (pc, .iaload, 1, a, b, z)) (hs : sh[p]? = some (.inl (0, n))) (h3 : Nat.ble mn0 p = true) (hj : midx ix n = some j) (k : mEnds [] d y (pc + 1, loc, .int (σ p j) :: st, hp sh σ, 0, 0) x) : mEnds [] d y (pc, loc, .int ix :: .ref p :: st, hp sh σ, 0, 0) x := by
  refine mEnds.step (t_fetch hf ?_) t_mon k
  have hn : j < n := (midx_inv hj).2.2
  show (bif Nat.ble mn0 p then _ else _) = _
  rw [h3, cond_true]
  refine (hA_eq (hp_get hs)).trans ((oB_eq rfl).trans ((oI_eq (j := j) (by rw [rg_len]; exact hj)).trans ?_))
  rw [rg_getD hn]; rfl
theorem t_ba {kd : Nat} {ix : Int32} (hf : mfetch y pc = some (pc, .baload, 1, a, b, z)) (hs : sh[p]? = some (.inl (kd, n))) (hk : (Nat.beq kd 1 || Nat.beq kd 2) = true) (h3 : Nat.ble mn0 p = true) (hj : midx ix n = some j) (k : mEnds [] d y (pc + 1, loc, .int (σ p j) :: st, hp sh σ, 0, 0) x) : mEnds [] d y (pc, loc, .int ix :: .ref p :: st, hp sh σ, 0, 0) x := by
  refine mEnds.step (t_fetch hf ?_) t_mon k
  have hn : j < n := (midx_inv hj).2.2
  refine (oB_eq h3).trans ((hA_eq (hp_get hs)).trans ((oB_eq hk).trans ((oI_eq (j := j) (by rw [rg_len]; exact hj)).trans ?_)))
  rw [rg_getD hn]; rfl
/-- the rows that are only read -/
theorem t_ro {ix : Int32} (hf : mfetch y pc = some (pc, .iaload, 1, a, b, z)) (h12 : p = 1 ∨ p = 2) (hj : midx ix 4 = some j) (k : mEnds [] d y (pc + 1, loc, .int ((roA p).getD j 0) :: st, hp sh σ, 0, 0) x) : mEnds [] d y (pc, loc, .int ix :: .ref p :: st, hp sh σ, 0, 0) x := by
  refine mEnds.step (t_fetch hf ?_) t_mon k
  rcases h12 with rfl | rfl
  · exact (oI_eq hj).trans rfl
  · exact (oI_eq hj).trans rfl
theorem t_is {ix v : Int32} (hf : mfetch y pc = some (pc, .iastore, 1, a, b, z)) (hs : sh[p]? = some (.inl (0, n))) (h3 : Nat.ble mn0 p = true) (hj : midx ix n = some j) (hσ : some (up σ p j v) = some σ') (k : mEnds [] d y (pc + 1, loc, st, hp sh σ', 0, 0) x) : mEnds [] d y (pc, loc, .int v :: .int ix :: .ref p :: st, hp sh σ, 0, 0) x := by
  cases hσ
  refine mEnds.step (t_fetch hf ?_) t_mon k
  refine (oB_eq h3).trans ((hA_eq (hp_get hs)).trans ((oB_eq rfl).trans ((oI_eq (j := j) (by rw [rg_len]; exact hj)).trans ?_)))
  rw [hp_setA hs]; rfl
theorem t_bs {ix v : Int32} (hf : mfetch y pc = some (pc, .bastore, 1, a, b, z)) (hs : sh[p]? = some (.inl (1, n))) (h3 : Nat.ble mn0 p = true) (hj : midx ix n = some j) (hσ : some (up σ p j (vp_nar .byte v)) = some σ') (k : mEnds [] d y (pc + 1, loc, st, hp sh σ', 0, 0) x) : mEnds [] d y (pc, loc, .int v :: .int ix :: .ref p :: st, hp sh σ, 0, 0) x := by
  cases hσ
  refine mEnds.step (t_fetch hf ?_) t_mon k
  refine (oB_eq h3).trans ((hA_eq (hp_get hs)).trans ((oI_eq (j := j) (by rw [rg_len]; exact hj)).trans ?_))
  show mgo _ _ _ _ _ _ = _
  rw [hp_setA hs]; rfl
theorem t_zs {ix v : Int32} (hf : mfetch y pc = some (pc, .bastore, 1, a, b, z)) (hs : sh[p]? = some (.inl (2, n))) (h3 : Nat.ble mn0 p = true) (hj : midx ix n = some j) (hσ : some (up σ p j (vp_nar .boolean v)) = some σ') (k : mEnds [] d y (pc + 1, loc, st, hp sh σ', 0, 0) x) : mEnds [] d y (pc, loc, .int v :: .int ix :: .ref p :: st, hp sh σ, 0, 0) x := by
  cases hσ
  refine mEnds.step (t_fetch hf ?_) t_mon k
  refine (oB_eq h3).trans ((hA_eq (hp_get hs)).trans ((oI_eq (j := j) (by rw [rg_len]; exact hj)).trans ?_))
  show mgo _ _ _ _ _ _ = _
  rw [hp_setA hs]; rfl
theorem t_aa {c r : Nat} {ix : Int32} (hf : mfetch y pc = some (pc, .aaload, 1, a, b, z)) (hs : sh[p]? = some (.inr (c, fs))) (hc : (Nat.beq c 7 || Nat.beq c 8) = true) (hn : fs.length = n) (hj : midx ix n = some j) (hr : fs[j]? = some (some r)) (k : mEnds [] d y (pc + 1, loc, .ref r :: st, hp sh σ, 0, 0) x) : mEnds [] d y (pc, loc, .int ix :: .ref p :: st, hp sh σ, 0, 0) x := by
  refine mEnds.step (t_fetch hf ?_) t_mon k
  exact (hO_eq (hp_get hs)).trans ((oB_eq hc).trans ((oI_eq (j := j) (by rw [List.length_mapIdx, hn]; exact hj)).trans ((oR_eq (v := r) (by rw [List.getElem?_mapIdx, hr]; rfl)).trans rfl)))
theorem t_cp {s q m N : Nat} (hf : mfetch y pc = some (pc, .invokestatic i, 3, a, 4, z)) (hs : sh[s]? = some (.inl (0, N))) (hq : sh[q]? = some (.inl (0, m))) (h3 : Nat.ble mn0 s = true) (h4 : Nat.ble mn0 q = true) {w : Int32} (hw : ¬ w < 0) (hwn : w.toNatClampNeg = n) (hn : n ≤ N) (hm : n ≤ m) (hcat : Nat.ble (mcat st) 8 = true) (hσ : some (cpy σ s q n) = some σ')
    (k : mEnds [] d y (pc + 3, loc, st, hp sh σ', 0, 0) x) : mEnds [] d y (pc, loc, .int w :: .int 0 :: .ref q :: .int 0 :: .ref s :: st, hp sh σ, 0, 0) x := by
  cases hσ
  subst hwn
  refine mEnds.step (t_fetch hf ?_) t_mon k
  refine (oB_eq h4).trans ((oB_eq h3).trans ((hA_eq (hp_get hs)).trans ((hA_eq (hp_get hq)).trans ((oB_eq rfl).trans ((oB_eq rfl).trans ((oN_eq (by decide)).trans ((oN_eq (by decide)).trans ((oN_eq hw).trans ((oB_eq (Nat.ble_eq_true_of_le ?_)).trans ((oB_eq (Nat.ble_eq_true_of_le ?_)).trans ((oB_eq hcat).trans ?_)))))))))))
  · rw [rg_len]; show 0 + _ ≤ _; omega
  · rw [rg_len]; show 0 + _ ≤ _; omega
  · show mgo _ _ _ ((hp sh σ).set q (.inl (0, mcpy ((List.range N).map (σ s)) ((List.range m).map (σ q)) 0 0 w.toNatClampNeg))) _ _ = _
    rw [hp_setC hq hn hm]; rfl
/-! branches -/
theorem t_jT {cd : ClassFile.Cond} {off : Int} {v : Int32} {t : Nat} (hf : mfetch y pc = some (pc, .ifCond cd off, 3, a, b, z)) (ht : (pc : Int) + off = (t : Int)) (hc : mtk cd v 0 = true) (k : mEnds [] d y (t, loc, st, hp sh σ, 0, 0) x) : mEnds [] d y (pc, loc, .int v :: st, hp sh σ, 0, 0) x := by
  refine mEnds.step (t_fetch hf ?_) t_mon k
  show (bif mtk cd v 0 then mjp pc off loc st (hp sh σ) 0 0 else _) = _
  rw [hc, cond_true]; exact mjp_eq ht
theorem t_jF {cd : ClassFile.Cond} {off : Int} {v : Int32} (hf : mfetch y pc = some (pc, .ifCond cd off, 3, a, b, z)) (hc : mtk cd v 0 = false) (k : mEnds [] d y (pc + 3, loc, st, hp sh σ, 0, 0) x) : mEnds [] d y (pc, loc, .int v :: st, hp sh σ, 0, 0) x := by
  refine mEnds.step (t_fetch hf ?_) t_mon k
  show (bif mtk cd v 0 then _ else mgo (pc + 3) loc st (hp sh σ) 0 0) = _
  rw [hc, cond_false]; rfl
theorem t_cT {cd : ClassFile.Cond} {off : Int} {v w : Int32} {t : Nat} (hf : mfetch y pc = some (pc, .if_icmp cd off, 3, a, b, z)) (ht : (pc : Int) + off = (t : Int)) (hc : mtk cd v w = true) (k : mEnds [] d y (t, loc, st, hp sh σ, 0, 0) x) : mEnds [] d y (pc, loc, .int w :: .int v :: st, hp sh σ, 0, 0) x := by
  refine mEnds.step (t_fetch hf ?_) t_mon k
  show (bif mtk cd v w then mjp pc off loc st (hp sh σ) 0 0 else _) = _
  rw [hc, cond_true]; exact mjp_eq ht
theorem t_cF {cd : ClassFile.Cond} {off : Int} {v w : Int32} (hf : mfetch y pc = some (pc, .if_icmp cd off, 3, a, b, z)) (hc : mtk cd v w = false) (k : mEnds [] d y (pc + 3, loc, st, hp sh σ, 0, 0) x) : mEnds [] d y (pc, loc, .int w :: .int v :: st, hp sh σ, 0, 0) x := by
  refine mEnds.step (t_fetch hf ?_) t_mon k
  show (bif mtk cd v w then _ else mgo (pc + 3) loc st (hp sh σ) 0 0) = _
  rw [hc, cond_false]; rfl
theorem t_sw {v c : Int32} {t : Nat} (hx : v = c) (h : ∀ (l : mL) (s : List Value) (hh : mH), mstep [] y (pc, l, .int c :: s, hh, 0, 0) = some (.inl (t, l, s, hh, 0, 0))) (k : mEnds [] d y (t, loc, st, hp sh σ, 0, 0) x) : mEnds [] d y (pc, loc, .int v :: st, hp sh σ, 0, 0) x := by
  subst hx
  exact mEnds.step (h loc st _) t_mon k
theorem t_swD {v : Int32} {t : Nat} {df : Int} {lo hi : Int} {offs : Array Int} (hf : mfetch y pc = some (pc, .tableswitch df lo hi offs, n, a, b, z)) (ht : (pc : Int) + df = (t : Int)) (hx : ¬ (lo ≤ v.toInt ∧ v.toInt ≤ hi)) (k : mEnds [] d y (t, loc, st, hp sh σ, 0, 0) x) : mEnds [] d y (pc, loc, .int v :: st, hp sh σ, 0, 0) x := by
  refine mEnds.step (t_fetch hf ?_) t_mon k
  show (if v.toInt < lo ∨ hi < v.toInt then mjp pc df loc st (hp sh σ) 0 0 else _) = _
  rw [if_pos (by omega)]; exact mjp_eq ht
/-! calls -/
theorem t_cv {as : List Value} {v : Option Value} (hf : mfetch y pc = some (pc, .invokevirtual i, 3, a, 0, z)) (hs : sh[p]? = some (.inr (mown a, fs))) (h6 : Nat.blt (mown a) 6 = true) (hn : as.length = marg a) (hm : Nat.ble (margs (.ref p :: as)).length (mmaxL a) = true) (hcat : Nat.ble (mcat st) 8 = true)
    (h : mEnds [] d a (mentry a (.ref p :: as) (hp sh σ)) (v, hp sh σ', 0, 0)) (k : mEnds [] (d + 1) y (pc + 3, loc, v.toList ++ st, hp sh σ', 0, 0) x) : mEnds [] (d + 1) y (pc, loc, as.reverse ++ .ref p :: st, hp sh σ, 0, 0) x := by
  have hp' : mpop (marg a) (as.reverse ++ .ref p :: st) = some (as, .ref p :: st) := by
    unfold mpop
    rw [← hn, Nat.ble_eq_true_of_le (by rw [List.length_append, List.length_reverse]; omega), cond_true]
    have e : as.length = as.reverse.length := List.length_reverse.symm
    rw [e, List.take_left, List.drop_left, List.reverse_reverse]
  refine mEnds.call (q' := (pc + 3, loc, st, hp sh σ, 0, 0)) (t_fetch hf ((oP_eq hp').trans ((hO_eq (hp_get hs)).trans ((oB_eq (Nat.beq_refl _)).trans ((oB_eq h6).trans ((oB_eq hcat).trans rfl)))))) ?_ h k
  rw [t_mon, hm]; rfl
theorem t_cs {as : List Value} {v : Option Value} (hb : b = 0 ∨ b = 1) (hf : mfetch y pc = some (pc, .invokestatic i, 3, a, b, z)) (hn : as.length = marg a) (hm : Nat.ble (margs as).length (mmaxL a) = true) (hcat : Nat.ble (mcat st) 8 = true)
    (h : mEnds [] d a (mentry a as (hp sh σ)) (v, hp sh σ', 0, 0)) (k : mEnds [] (d + 1) y (pc + 3, loc, v.toList ++ st, hp sh σ', 0, 0) x) : mEnds [] (d + 1) y (pc, loc, as.reverse ++ st, hp sh σ, 0, 0) x := by
  have hp' : mpop (marg a) (as.reverse ++ st) = some (as, st) := by
    unfold mpop
    rw [← hn, Nat.ble_eq_true_of_le (by rw [List.length_append, List.length_reverse]; omega), cond_true]
    have e : as.length = as.reverse.length := List.length_reverse.symm
    rw [e, List.take_left, List.drop_left, List.reverse_reverse]
  refine mEnds.call (q' := (pc + 3, loc, st, hp sh σ, 0, 0)) (t_fetch hf ?_) ?_ h k
  · rcases hb with rfl | rfl
    · exact (oP_eq hp').trans ((oB_eq hcat).trans rfl)
    · exact (oP_eq hp').trans ((oB_eq hcat).trans rfl)
  · rw [t_mon, hm]; rfl
end STP
/-! what a compare says -/
section CMP
variable {u w : Int32}
theorem k_lt (h : u < w) : mtk .lt u w = true := decide_eq_true h
theorem k_lt' (h : ¬ u < w) : mtk .lt u w = false := decide_eq_false h
theorem k_ge (h : ¬ u < w) : mtk .ge u w = true := decide_eq_true (Int32.not_lt.mp h)
theorem k_ge' (h : u < w) : mtk .ge u w = false := decide_eq_false (Int32.not_le.mpr h)
theorem k_gt (h : w < u) : mtk .gt u w = true := decide_eq_true h
theorem k_gt' (h : ¬ w < u) : mtk .gt u w = false := decide_eq_false h
theorem k_le (h : ¬ w < u) : mtk .le u w = true := decide_eq_true (Int32.not_lt.mp h)
theorem k_le' (h : w < u) : mtk .le u w = false := decide_eq_false (Int32.not_le.mpr h)
theorem k_eq (h : u = w) : mtk .eq u w = true := decide_eq_true h
theorem k_eq' (h : ¬ u = w) : mtk .eq u w = false := decide_eq_false h
theorem k_ne (h : ¬ u = w) : mtk .ne u w = true := decide_eq_true h
theorem k_ne' (h : u = w) : mtk .ne u w = false := decide_eq_false (fun q => q h)
end CMP
section CMPL
variable {u w : Int64}
theorem lg_lt0 : (lg_cmp u w < 0) ↔ u < w := by
  unfold lg_cmp
  by_cases h1 : u > w
  · rw [if_pos h1]
    exact ⟨fun h => absurd h (by decide), fun h => absurd h (Int64.not_lt.mpr (Int64.le_of_lt h1))⟩
  · rw [if_neg h1]
    by_cases h2 : u = w
    · rw [if_pos h2]
      exact ⟨fun h => absurd h (by decide), fun h => absurd h (by rw [h2]; exact Int64.lt_irrefl)⟩
    · rw [if_neg h2]
      refine ⟨fun _ => ?_, fun _ => by decide⟩
      rw [Int64.lt_iff_toInt_lt]
      have h3 : ¬ w.toInt < u.toInt := fun q => h1 (Int64.lt_iff_toInt_lt.mpr q)
      have h4 : ¬ u.toInt = w.toInt := fun q => h2 (Int64.toInt_inj.mp q)
      omega
theorem lg_gt0 : (0 < lg_cmp u w) ↔ w < u := by
  unfold lg_cmp
  by_cases h1 : u > w
  · rw [if_pos h1]
    exact ⟨fun _ => h1, fun _ => by decide⟩
  · rw [if_neg h1]
    by_cases h2 : u = w
    · rw [if_pos h2]
      exact ⟨fun h => absurd h (by decide), fun h => absurd h h1⟩
    · rw [if_neg h2]
      exact ⟨fun h => absurd h (by decide), fun h => absurd h h1⟩
theorem lg_eq0 : (lg_cmp u w = 0) ↔ u = w := by
  unfold lg_cmp
  by_cases h1 : u > w
  · rw [if_pos h1]
    exact ⟨fun h => absurd h (by decide), fun h => absurd h1 (by rw [h]; exact Int64.lt_irrefl)⟩
  · rw [if_neg h1]
    by_cases h2 : u = w
    · rw [if_pos h2]
      exact ⟨fun _ => h2, fun _ => rfl⟩
    · rw [if_neg h2]
      exact ⟨fun h => absurd h (by decide), fun h => absurd h h2⟩
theorem l_lt (h : u < w) : mtk .lt (lg_cmp u w) 0 = true := k_lt (lg_lt0.mpr h)
theorem l_lt' (h : ¬ u < w) : mtk .lt (lg_cmp u w) 0 = false := k_lt' (fun q => h (lg_lt0.mp q))
theorem l_ge (h : ¬ u < w) : mtk .ge (lg_cmp u w) 0 = true := k_ge (fun q => h (lg_lt0.mp q))
theorem l_ge' (h : u < w) : mtk .ge (lg_cmp u w) 0 = false := k_ge' (lg_lt0.mpr h)
theorem l_gt (h : w < u) : mtk .gt (lg_cmp u w) 0 = true := k_gt (lg_gt0.mpr h)
theorem l_gt' (h : ¬ w < u) : mtk .gt (lg_cmp u w) 0 = false := k_gt' (fun q => h (lg_gt0.mp q))
theorem l_le (h : ¬ w < u) : mtk .le (lg_cmp u w) 0 = true := k_le (fun q => h (lg_gt0.mp q))
theorem l_le' (h : w < u) : mtk .le (lg_cmp u w) 0 = false := k_le' (lg_gt0.mpr h)
theorem l_eq (h : u = w) : mtk .eq (lg_cmp u w) 0 = true := k_eq (lg_eq0.mpr h)
theorem l_eq' (h : ¬ u = w) : mtk .eq (lg_cmp u w) 0 = false := k_eq' (fun q => h (lg_eq0.mp q))
theorem l_ne (h : ¬ u = w) : mtk .ne (lg_cmp u w) 0 = true := k_ne (fun q => h (lg_eq0.mp q))
theorem l_ne' (h : u = w) : mtk .ne (lg_cmp u w) 0 = false := k_ne' (lg_eq0.mpr h)
end CMPL
theorem sw_out {v : Int32} {lo hi : Int} (h : ∀ k : Nat, (k : Int) ≤ hi - lo → ¬ v = Int32.ofInt (lo + k)) : ¬ (lo ≤ v.toInt ∧ v.toInt ≤ hi) := fun q => by
  have e := h (v.toInt - lo).toNat (by omega)
  refine e ?_
  have e2 : lo + ((v.toInt - lo).toNat : Int) = v.toInt := by omega
  rw [e2, Int32.ofInt_toInt]
def FU : Nat := 100000
theorem z01 {v : Int32} (h : v = 0 ∨ v = 1) : (decide (v = 0) || decide (v = 1)) = true := by
  rcases h with rfl | rfl <;> rfl
