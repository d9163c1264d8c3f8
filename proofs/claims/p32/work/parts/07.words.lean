/-! the words that the tables give, by numbers -/
def mgood : List Cond := lw_tbl.filter goodWord
theorem mem_good {w : Cond} (h : w ∈ lw_tbl) (g : goodWord w = true) : w ∈ mgood := List.mem_filter.mpr ⟨h, g⟩
theorem mgood_in : GoodIn lw_tbl mgood := fun w h => ⟨(List.mem_filter.mp h).1, good_of_word (List.mem_filter.mp h).2⟩
theorem mgood_self : GoodIn mgood mgood := fun w h => ⟨h, good_of_word (List.mem_filter.mp h).2⟩
/-- a list in the order of another -/
def msub : List Cond → List Cond → Bool
  | [], _ => true
  | _ :: _, [] => false
  | a :: as, b :: bs => bif decide (a = b) then msub as bs else msub (a :: as) bs
theorem msub_mem : ∀ (as bs : List Cond), msub as bs = true → ∀ w ∈ as, w ∈ bs
  | [], _, _, w, hw => absurd hw List.not_mem_nil
  | _ :: _, [], h, _, _ => by simp [msub] at h
  | a :: as, b :: bs, h, w, hw => by
    by_cases e : a = b
    · rw [msub, decide_eq_true e] at h
      rcases List.mem_cons.mp hw with q | q
      · rw [q, e]; exact List.mem_cons_self
      · exact List.mem_cons_of_mem _ (msub_mem as bs h w q)
    · rw [msub, decide_eq_false e] at h
      exact List.mem_cons_of_mem _ (msub_mem (a :: as) bs h w hw)
def mwF (q : Nat × Nat × Nat × Nat) : Cond := .fieldLink (mR q.1) q.2.1 (mT q.2.2.1 q.2.2.2).1 (mT q.2.2.1 q.2.2.2).2.1 (mT q.2.2.1 q.2.2.2).2.2.1
theorem mlF_ok : msub (mlF.map mwF) lw_tbl = true := by decide +kernel
theorem mlC_ok : msub (mlC.map (fun q => .classLink (mR q.1) q.2.1 (mR q.2.2))) lw_tbl = true := by decide +kernel
theorem mlK_ok : msub (mlK.map (fun q => .constant (mR q.1) q.2.1 (Int32.ofInt q.2.2))) lw_tbl = true := by decide +kernel
theorem mlO_ok : msub (mlO.map (fun q => .methodLink (mR q.1) q.2 Lib.objectInit)) lw_tbl = true := by decide +kernel
theorem mlA_ok : msub (mlA.map (fun q => .methodLink (mR q.1) q.2 arraycopyName)) lw_tbl = true := by decide +kernel
