/-! an hour looks at the 52 numbers of a page alone -/
section CONGR
variable {R r : Nat} {g g' : Nat → Int32} {x1 x2 : Int32}
theorem gu_c {i : Nat} {v : Int32} (h : ∀ k, k < 52 → g k = g' k) : ∀ k, k < 52 → gu g i v k = gu g' i v k := fun k hk => by
  unfold gu
  rw [h k hk]
theorem swV_c (h : ∀ k, k < 52 → g k = g' k) (hr : r < 6) : ∀ k, k < 52 → swV g r k = swV g' r k := fun k hk => by
  have e1 : lowV g r = lowV g' r := by unfold lowV; rw [h (18 + r) (by omega), h (24 + r) (by omega)]
  have e2 : highV g r = highV g' r := by unfold highV; rw [h (18 + r) (by omega), h (24 + r) (by omega)]
  have e3 : newV g r = newV g' r := by unfold newV; rw [e1, e2, h r (by omega), h (30 + r) (by omega)]
  unfold swV
  rw [h (18 + r) (by omega), e3, h (30 + r) (by omega), h 51 (by decide)]
  by_cases c : 0 < g' (18 + r)
  · rw [if_pos c, if_pos c]
    by_cases d : newV g' r = g' (30 + r)
    · rw [if_pos d, if_pos d]; exact h k hk
    · rw [if_neg d, if_neg d]; exact gu_c (gu_c h) k hk
  · rw [if_neg c, if_neg c]; exact h k hk
theorem swN_c : ∀ (n r : Nat) (g g' : Nat → Int32), (∀ k, k < 52 → g k = g' k) → r + n ≤ 6 → ∀ k, k < 52 → swN g n r k = swN g' n r k
  | 0, r, g, g', h, hr => h
  | n + 1, r, g, g', h, hr => swN_c n (r + 1) _ _ (swV_c h (by omega)) (by omega)
theorem outW_c (h : ∀ k, k < 52 → g k = g' k) (hr : r < 6) : outW g R r = outW g' R r := by
  unfold outW
  rw [h (36 + r) (by omega), h r (by omega), h (r + 1) (by omega)]
theorem innW_c (h : ∀ k, k < 52 → g k = g' k) (hr : r < 6) : innW g R r = innW g' R r := by
  cases r with
  | zero => rfl
  | succ q => exact outW_c h (by omega)
theorem warmV_c (h : ∀ k, k < 52 → g k = g' k) (hr : r < 6) : warmV g R x1 x2 r = warmV g' R x1 x2 r := by
  unfold warmV lossV bnV
  rw [innW_c h hr, outW_c h hr, h r (by omega), h (6 + r) (by omega), h (30 + r) (by omega), h (12 + r) (by omega)]
theorem brV_c (h : ∀ k, k < 52 → g k = g' k) : ∀ (n r : Nat) (c : Int32), r + n ≤ 6 → brV g x2 n r c = brV g' x2 n r c
  | 0, r, c, hr => rfl
  | n + 1, r, c, hr => by
    rw [brV, brV, h (30 + r) (by omega)]
    exact brV_c h n (r + 1) _ (by omega)
theorem passV_c (hR : R ≤ 6) (h : ∀ k, k < 52 → g k = g' k) : ∀ k, k < 52 → passV R x1 x2 g k = passV R x1 x2 g' k := fun k hk => by
  unfold passV
  rw [h 49 (by decide), brV_c h R 0 (g 50) (by omega), h 50 (by decide)]
  refine gu_c (fun q hq => ?_) k hk
  unfold midV
  by_cases c : q < R
  · rw [if_pos c, if_pos c]; exact warmV_c h (by omega)
  · rw [if_neg c, if_neg c]
    by_cases d : q = 50
    · rw [if_pos d, if_pos d]
    · rw [if_neg d, if_neg d]; exact h q hq
theorem hourV_c (hR : R ≤ 6) (h : ∀ k, k < 52 → g k = g' k) : ∀ k, k < 52 → hourV R x1 x2 g k = hourV R x1 x2 g' k := passV_c hR (swN_c R 0 g g' h (by omega))
theorem skyV_c (h : ∀ k, k < 52 → g k = g' k) : skyV g = skyV g' := by
  unfold skyV
  rw [h 49 (by decide), h (41 + (g' 49).toInt.toNat % 8) (by omega)]
theorem nextV_c (hR : R ≤ 6) (h : ∀ k, k < 52 → g k = g' k) : ∀ k, k < 52 → nextV R g k = nextV R g' k := by
  unfold nextV
  rw [skyV_c h]
  exact hourV_c hR h
theorem hoursV_c (hR : R ≤ 6) : ∀ (n : Nat) (g g' : Nat → Int32), (∀ k, k < 52 → g k = g' k) → ∀ k, k < 52 → hoursV R n g k = hoursV R n g' k
  | 0, g, g', h => h
  | n + 1, g, g', h => hoursV_c hR n _ _ (nextV_c hR h)
end CONGR
