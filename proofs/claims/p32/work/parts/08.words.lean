theorem mlM_ok : msub (mlM.map (fun q => .methodLink (mR q.1) q.2.1 (mname q.2.2))) lw_tbl = true := by decide +kernel
theorem mlN_ok : msub (mlN.map (fun q => .methodLinkNest (mR q.1) q.2.1 (mname q.2.2) RX4)) lw_tbl = true := by decide +kernel
theorem mlL_ok : msub (mlL.map (fun q => .constantLong (mR q.1) q.2.1 (Int64.ofInt q.2.2))) lw_tbl = true := by decide +kernel
theorem moInst_ok : msub (moInst.map (fun y => .instanceMethod (mname y))) lw_tbl = true := by decide +kernel
theorem moStat_ok : msub (moStat.map (fun y => .static (mname y))) lw_tbl = true := by decide +kernel
theorem moSel_ok : msub (moSel.map (fun y => .selects (mname y).cls (mname y) (mname y))) lw_tbl = true := by decide +kernel
theorem moIni_ok : msub (moIni.map (fun o => .initialized (mR o))) lw_tbl = true := by decide +kernel
theorem moIns_ok : msub (moIns.map (fun o => .instantiable (mR o) (mN o))) lw_tbl = true := by decide +kernel
theorem mlMin_ok : msub (mlMin.map (fun q => .methodLink (mR q.1) q.2 Lib.Math.min.name)) lw_tbl = true := by decide +kernel
theorem mlMax_ok : msub (mlMax.map (fun q => .methodLink (mR q.1) q.2 Lib.Math.max.name)) lw_tbl = true := by decide +kernel
theorem mlMaxL_ok : msub (mlMaxL.map (fun q => .methodLink (mR q.1) q.2 Lib.MathLoose.max_long.x)) lw_tbl = true := by decide +kernel
/-- words taken out of a list, by how many are passed over -/
def mpick (l : List Cond) : List Nat → List Cond
  | [] => []
  | g :: gs => match l.drop g with
    | [] => []
    | a :: r => a :: mpick r gs
theorem mpick_mem : ∀ (gs : List Nat) (l : List Cond), ∀ w ∈ mpick l gs, w ∈ l
  | [], _, w, h => by simp [mpick] at h
  | g :: gs, l, w, h => by
    cases e : l.drop g with
    | nil => simp [mpick, e] at h
    | cons a r =>
      rw [mpick, e] at h
      have sub : ∀ x ∈ a :: r, x ∈ l := fun x hx => List.mem_of_mem_drop (e ▸ hx)
      rcases List.mem_cons.mp h with q | q
      · rw [q]; exact sub a List.mem_cons_self
      · exact sub w (List.mem_cons_of_mem _ (mpick_mem gs r w q))
