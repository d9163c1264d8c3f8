def M_numbersAt_14 (x1 : Int32) (x2 : Int32) (x3 : Int32) (x4 : Int32) : Nat → Int32 → Int32 → sg → Option (Int32 × sg)
  | 0, _, _, _ => none
  | fu + 1, x5, x6, s =>
  if x6 < x3 then
    (midx x1 312).bind fun j2 =>
    (some (up s 11 j2 (x2 + x6))).bind fun s2 =>
    (M_isAsSeen x6 s2).bind fun v1 =>
    if v1.1 = 0 then
      M_numbersAt_14 x1 x2 x3 x4 fu (x5 ||| (nI 0)) (x6 + (nI 1)) v1.2
    else
      M_numbersAt_14 x1 x2 x3 x4 fu (x5 ||| ((nI 1) <<< (x6 &&& 31))) (x6 + (nI 1)) v1.2
  else
    (midx x1 312).bind fun j1 =>
    (some (up s 11 j1 x4)).bind fun s1 =>
    some (x5, s1)
set_option maxRecDepth 100000 in
theorem ok_M_numbersAt_14 {x1 : Int32} {x2 : Int32} {x3 : Int32} {x4 : Int32} : ∀ (fu : Nat) (x5 : Int32) (x6 : Int32) (s : sg) (rv : (Int32 × sg)), M_numbersAt_14 x1 x2 x3 x4 fu x5 x6 s = some rv → mEnds [] 5 171 (14, [some (.ref 10), some (.int x1), some (.int x2), some (.int x3), some (.int x4), some (.int x5), some (.int x6)], [], hp shM s, 0, 0) (some (.int rv.1), hp shM rv.2, 0, 0)
  | 0, _, _, _, _, hf => by cases hf
  | fu + 1, x5, x6, s, rv, hf => by
    rw [M_numbersAt_14] at hf
    refine mEnds.stp 2 (pc' := 17) (l' := [some (.ref 10), some (.int x1), some (.int x2), some (.int x3), some (.int x4), some (.int x5), some (.int x6)]) (st' := [.int x3, .int x6]) (fun _ => rfl) ?_
    by_cases hc1 : x6 < x3
    · rw [if_pos hc1] at hf
      refine t_cF (rfl : mfetch 171 17 = some (17, .if_icmp .ge 41, 3, 0, 0, 0)) (k_ge' hc1) ?_
      refine mEnds.stp 1 (pc' := 21) (l' := [some (.ref 10), some (.int x1), some (.int x2), some (.int x3), some (.int x4), some (.int x5), some (.int x6)]) (st' := [.ref 10]) (fun _ => rfl) ?_
      refine t_gr (rfl : mfetch 171 21 = some (21, .getfield 7, 3, 5, 0, 0)) rfl rfl ?_
      refine mEnds.stp 4 (pc' := 29) (l' := [some (.ref 10), some (.int x1), some (.int x2), some (.int x3), some (.int x4), some (.int x5), some (.int x6)]) (st' := [.int (x2 + x6), .int x1, .ref 11]) (fun _ => rfl) ?_
      obtain ⟨j2, hj2, hf⟩ := ob hf
      obtain ⟨s2, hs2, hf⟩ := ob hf
      refine t_is (rfl : mfetch 171 29 = some (29, .iastore, 1, 0, 0, 0)) rfl rfl hj2 hs2 ?_
      refine mEnds.stp 3 (pc' := 35) (l' := [some (.ref 10), some (.int x1), some (.int x2), some (.int x3), some (.int x4), some (.int x5), some (.int x6)]) (st' := [.int x6, .ref 10, .int x5]) (fun _ => rfl) ?_
      obtain ⟨v1, hv1, hf⟩ := ob hf
      refine t_cv (as := [.int x6]) (st := [.int x5]) (rfl : mfetch 171 35 = some (35, .invokevirtual 239, 3, 170, 0, 0)) rfl rfl rfl rfl rfl (ok_M_isAsSeen hv1) ?_
      by_cases hc2 : v1.1 = 0
      · rw [if_pos hc2] at hf
        refine t_jT (t := 48) (rfl : mfetch 171 38 = some (38, .ifCond .eq 10, 3, 0, 0, 0)) rfl (k_eq hc2) ?_
        refine mEnds.stp 5 (pc' := 14) (l' := [some (.ref 10), some (.int x1), some (.int x2), some (.int x3), some (.int x4), some (.int (x5 ||| (nI 0))), some (.int (x6 + (nI 1)))]) (st' := []) (fun _ => rfl) ?_
        refine mEnds.cut (l := [some (.ref 10), some (.int x1), some (.int x2), some (.int x3), some (.int x4), some (.int (x5 ||| (nI 0))), some (.int (x6 + (nI 1)))]) ⟨rfl, ⟨rfl, ⟨rfl, ⟨rfl, ⟨rfl, ⟨rfl, ⟨rfl, trivial⟩⟩⟩⟩⟩⟩⟩ ?_
        exact ok_M_numbersAt_14 fu (x5 ||| (nI 0)) (x6 + (nI 1)) v1.2 _ hf
      · rw [if_neg hc2] at hf
        refine t_jF (rfl : mfetch 171 38 = some (38, .ifCond .eq 10, 3, 0, 0, 0)) (k_eq' hc2) ?_
        refine mEnds.stp 8 (pc' := 14) (l' := [some (.ref 10), some (.int x1), some (.int x2), some (.int x3), some (.int x4), some (.int (x5 ||| ((nI 1) <<< (x6 &&& 31)))), some (.int (x6 + (nI 1)))]) (st' := []) (fun _ => rfl) ?_
        refine mEnds.cut (l := [some (.ref 10), some (.int x1), some (.int x2), some (.int x3), some (.int x4), some (.int (x5 ||| ((nI 1) <<< (x6 &&& 31)))), some (.int (x6 + (nI 1)))]) ⟨rfl, ⟨rfl, ⟨rfl, ⟨rfl, ⟨rfl, ⟨rfl, ⟨rfl, trivial⟩⟩⟩⟩⟩⟩⟩ ?_
        exact ok_M_numbersAt_14 fu (x5 ||| ((nI 1) <<< (x6 &&& 31))) (x6 + (nI 1)) v1.2 _ hf
    · rw [if_neg hc1] at hf
      refine t_cT (t := 58) (rfl : mfetch 171 17 = some (17, .if_icmp .ge 41, 3, 0, 0, 0)) rfl (k_ge hc1) ?_
      refine mEnds.stp 1 (pc' := 59) (l' := [some (.ref 10), some (.int x1), some (.int x2), some (.int x3), some (.int x4), some (.int x5), some (.int x6)]) (st' := [.ref 10]) (fun _ => rfl) ?_
      refine t_gr (rfl : mfetch 171 59 = some (59, .getfield 7, 3, 5, 0, 0)) rfl rfl ?_
      refine mEnds.stp 2 (pc' := 65) (l' := [some (.ref 10), some (.int x1), some (.int x2), some (.int x3), some (.int x4), some (.int x5), some (.int x6)]) (st' := [.int x4, .int x1, .ref 11]) (fun _ => rfl) ?_
      obtain ⟨j1, hj1, hf⟩ := ob hf
      obtain ⟨s1, hs1, hf⟩ := ob hf
      refine t_is (rfl : mfetch 171 65 = some (65, .iastore, 1, 0, 0, 0)) rfl rfl hj1 hs1 ?_
      refine mEnds.stp 1 (pc' := 68) (l' := [some (.ref 10), some (.int x1), some (.int x2), some (.int x3), some (.int x4), some (.int x5), some (.int x6)]) (st' := [.int x5]) (fun _ => rfl) ?_
      exact mEnds.rti (Option.some.inj hf) (fun _ => rfl)
def M_numbersAt (x1 : Int32) (x2 : Int32) (x3 : Int32) (s : sg) : Option (Int32 × sg) :=
  (midx x1 312).bind fun j1 =>
  M_numbersAt_14 x1 x2 x3 (s 11 j1) FU (nI 0) (nI 0) s
set_option maxRecDepth 100000 in
theorem ok_M_numbersAt {x1 : Int32} {x2 : Int32} {x3 : Int32} {s : sg} {rv : (Int32 × sg)} (hf : M_numbersAt x1 x2 x3 s = some rv) : mEnds [] 5 171 (0, [some (.ref 10), some (.int x1), some (.int x2), some (.int x3), none, none, none], [], hp shM s, 0, 0) (some (.int rv.1), hp shM rv.2, 0, 0) := by
  unfold M_numbersAt at hf
  refine mEnds.stp 1 (pc' := 1) (l' := [some (.ref 10), some (.int x1), some (.int x2), some (.int x3), none, none, none]) (st' := [.ref 10]) (fun _ => rfl) ?_
  refine t_gr (rfl : mfetch 171 1 = some (1, .getfield 7, 3, 5, 0, 0)) rfl rfl ?_
  refine mEnds.stp 1 (pc' := 5) (l' := [some (.ref 10), some (.int x1), some (.int x2), some (.int x3), none, none, none]) (st' := [.int x1, .ref 11]) (fun _ => rfl) ?_
  obtain ⟨j1, hj1, hf⟩ := ob hf
  refine t_ia (rfl : mfetch 171 5 = some (5, .iaload, 1, 0, 0, 0)) rfl rfl hj1 ?_
  refine mEnds.stp 5 (pc' := 14) (l' := [some (.ref 10), some (.int x1), some (.int x2), some (.int x3), some (.int (s 11 j1)), some (.int (nI 0)), some (.int (nI 0))]) (st' := []) (fun _ => rfl) ?_
  refine mEnds.cut (l := [some (.ref 10), some (.int x1), some (.int x2), some (.int x3), some (.int (s 11 j1)), some (.int (nI 0)), some (.int (nI 0))]) ⟨rfl, ⟨rfl, ⟨rfl, ⟨rfl, ⟨rfl, ⟨rfl, ⟨rfl, trivial⟩⟩⟩⟩⟩⟩⟩ ?_
  exact ok_M_numbersAt_14 FU (nI 0) (nI 0) s _ hf
def M_kinds (x1 : Int32) (s : sg) : Option (Int32 × sg) :=
  (M_isRoom x1 s).bind fun v1 =>
  if v1 = 0 then
    some ((-1), s)
  else
    (M_hasTongue x1 s).bind fun v2 =>
    if v2 = 0 then
      some ((-2), s)
    else
      (M_numbersAt ((nI 18) + x1) (nI 1) (nI 4) s).bind fun v3 =>
      some (v3.1, v3.2)
set_option maxRecDepth 100000 in
theorem ok_M_kinds {x1 : Int32} {s : sg} {rv : (Int32 × sg)} (hf : M_kinds x1 s = some rv) : mEnds [] 6 172 (0, [some (.ref 10), some (.int x1)], [], hp shM s, 0, 0) (some (.int rv.1), hp shM rv.2, 0, 0) := by
  unfold M_kinds at hf
  refine mEnds.stp 2 (pc' := 2) (l' := [some (.ref 10), some (.int x1)]) (st' := [.int x1, .ref 10]) (fun _ => rfl) ?_
  obtain ⟨v1, hv1, hf⟩ := ob hf
  refine t_cv (as := [.int x1]) (st := []) (rfl : mfetch 172 2 = some (2, .invokevirtual 167, 3, 126, 0, 0)) rfl rfl rfl rfl rfl ((ok_M_isRoom hv1).deep 4) ?_
  by_cases hc1 : v1 = 0
  · rw [if_pos hc1] at hf
    refine t_jF (rfl : mfetch 172 5 = some (5, .ifCond .ne 5, 3, 0, 0, 0)) (k_ne' hc1) ?_
    refine mEnds.stp 1 (pc' := 9) (l' := [some (.ref 10), some (.int x1)]) (st' := [.int (-1)]) (fun _ => rfl) ?_
    exact mEnds.rti (Option.some.inj hf) (fun _ => rfl)
  · rw [if_neg hc1] at hf
    refine t_jT (t := 10) (rfl : mfetch 172 5 = some (5, .ifCond .ne 5, 3, 0, 0, 0)) rfl (k_ne hc1) ?_
    refine mEnds.stp 2 (pc' := 12) (l' := [some (.ref 10), some (.int x1)]) (st' := [.int x1, .ref 10]) (fun _ => rfl) ?_
    obtain ⟨v2, hv2, hf⟩ := ob hf
    refine t_cv (as := [.int x1]) (st := []) (rfl : mfetch 172 12 = some (12, .invokevirtual 173, 3, 128, 0, 0)) rfl rfl rfl rfl rfl ((ok_M_hasTongue hv2).deep 5) ?_
    by_cases hc2 : v2 = 0
    · rw [if_pos hc2] at hf
      refine t_jT (t := 31) (rfl : mfetch 172 15 = some (15, .ifCond .eq 16, 3, 0, 0, 0)) rfl (k_eq hc2) ?_
      refine mEnds.stp 1 (pc' := 33) (l' := [some (.ref 10), some (.int x1)]) (st' := [.int (-2)]) (fun _ => rfl) ?_
      exact mEnds.rti (Option.some.inj hf) (fun _ => rfl)
    · rw [if_neg hc2] at hf
      refine t_jF (rfl : mfetch 172 15 = some (15, .ifCond .eq 16, 3, 0, 0, 0)) (k_eq' hc2) ?_
      refine mEnds.stp 6 (pc' := 25) (l' := [some (.ref 10), some (.int x1)]) (st' := [.int (nI 4), .int (nI 1), .int ((nI 18) + x1), .ref 10]) (fun _ => rfl) ?_
      obtain ⟨v3, hv3, hf⟩ := ob hf
      refine t_cv (as := [.int ((nI 18) + x1), .int (nI 1), .int (nI 4)]) (st := []) (rfl : mfetch 172 25 = some (25, .invokevirtual 242, 3, 171, 0, 0)) rfl rfl rfl rfl rfl (ok_M_numbersAt hv3) ?_
      refine mEnds.stp 1 (pc' := 33) (l' := [some (.ref 10), some (.int x1)]) (st' := [.int v3.1]) (fun _ => rfl) ?_
      exact mEnds.rti (Option.some.inj hf) (fun _ => rfl)
def M_lets (x1 : Int32) (s : sg) : Option (Int32 × sg) :=
  (M_isWall x1 s).bind fun v1 =>
  if v1 = 0 then
    some ((-1), s)
  else
    (M_numbersAt ((nI 36) + x1) (-2) (nI 10) s).bind fun v2 =>
    some (v2.1, v2.2)
set_option maxRecDepth 100000 in
theorem ok_M_lets {x1 : Int32} {s : sg} {rv : (Int32 × sg)} (hf : M_lets x1 s = some rv) : mEnds [] 6 173 (0, [some (.ref 10), some (.int x1)], [], hp shM s, 0, 0) (some (.int rv.1), hp shM rv.2, 0, 0) := by
  unfold M_lets at hf
  refine mEnds.stp 2 (pc' := 2) (l' := [some (.ref 10), some (.int x1)]) (st' := [.int x1, .ref 10]) (fun _ => rfl) ?_
  obtain ⟨v1, hv1, hf⟩ := ob hf
  refine t_cv (as := [.int x1]) (st := []) (rfl : mfetch 173 2 = some (2, .invokevirtual 176, 3, 127, 0, 0)) rfl rfl rfl rfl rfl ((ok_M_isWall hv1).deep 4) ?_
  by_cases hc1 : v1 = 0
  · rw [if_pos hc1] at hf
    refine t_jT (t := 23) (rfl : mfetch 173 5 = some (5, .ifCond .eq 18, 3, 0, 0, 0)) rfl (k_eq hc1) ?_
    refine mEnds.stp 1 (pc' := 24) (l' := [some (.ref 10), some (.int x1)]) (st' := [.int (-1)]) (fun _ => rfl) ?_
    exact mEnds.rti (Option.some.inj hf) (fun _ => rfl)
  · rw [if_neg hc1] at hf
    refine t_jF (rfl : mfetch 173 5 = some (5, .ifCond .eq 18, 3, 0, 0, 0)) (k_eq' hc1) ?_
    refine mEnds.stp 6 (pc' := 17) (l' := [some (.ref 10), some (.int x1)]) (st' := [.int (nI 10), .int (-2), .int ((nI 36) + x1), .ref 10]) (fun _ => rfl) ?_
    obtain ⟨v2, hv2, hf⟩ := ob hf
    refine t_cv (as := [.int ((nI 36) + x1), .int (-2), .int (nI 10)]) (st := []) (rfl : mfetch 173 17 = some (17, .invokevirtual 242, 3, 171, 0, 0)) rfl rfl rfl rfl rfl (ok_M_numbersAt hv2) ?_
    refine mEnds.stp 1 (pc' := 24) (l' := [some (.ref 10), some (.int x1)]) (st' := [.int v2.1]) (fun _ => rfl) ?_
    exact mEnds.rti (Option.some.inj hf) (fun _ => rfl)
def M_worstAt_78 (k5 : Int32 → Int32 → Option Int32) (k18 : Int32 → Int32 → Option Int32) (x1 : Int32) (x2 : Int32) (x3 : Int32) (x4 : Int32) (x6 : Int32) (y0 : Int32) (s : sg) : Option Int32 :=
  k18 (y0 + (nI 0)) (x6 + (nI 1))
set_option maxRecDepth 100000 in
theorem ok_M_worstAt_78 {k5 : Int32 → Int32 → Option Int32} {k18 : Int32 → Int32 → Option Int32} {x1 : Int32} {x2 : Int32} {x3 : Int32} {x4 : Int32} {x6 : Int32} {y0 : Int32} {s : sg} {rv : Int32} (hk5 : ∀ (x3 : Int32) (x4 : Int32) (rv : Int32), k5 x3 x4 = some rv → mEnds [] 0 174 (5, [some (.ref 10), some (.int x1), some (.int x2), some (.int x3), some (.int x4), none, none], [], hp shM s, 0, 0) (some (.int rv), hp shM s, 0, 0)) (hk18 : ∀ (x5 : Int32) (x6 : Int32) (rv : Int32), k18 x5 x6 = some rv → mEnds [] 0 174 (18, [some (.ref 10), some (.int x1), some (.int x2), some (.int x3), some (.int x4), some (.int x5), some (.int x6)], [], hp shM s, 0, 0) (some (.int rv), hp shM s, 0, 0)) (hf : M_worstAt_78 k5 k18 x1 x2 x3 x4 x6 y0 s = some rv) : mEnds [] 0 174 (78, [some (.ref 10), some (.int x1), some (.int x2), some (.int x3), some (.int x4), none, some (.int x6)], [.int y0], hp shM s, 0, 0) (some (.int rv), hp shM s, 0, 0) := by
  unfold M_worstAt_78 at hf
  refine mEnds.stp 5 (pc' := 18) (l' := [some (.ref 10), some (.int x1), some (.int x2), some (.int x3), some (.int x4), some (.int (y0 + (nI 0))), some (.int (x6 + (nI 1)))]) (st' := []) (fun _ => rfl) ?_
  refine mEnds.cut (l := [some (.ref 10), some (.int x1), some (.int x2), some (.int x3), some (.int x4), some (.int (y0 + (nI 0))), some (.int (x6 + (nI 1)))]) ⟨rfl, ⟨rfl, ⟨rfl, ⟨rfl, ⟨rfl, ⟨rfl, ⟨rfl, trivial⟩⟩⟩⟩⟩⟩⟩ ?_
  exact hk18 (y0 + (nI 0)) (x6 + (nI 1)) _ hf
def M_worstAt_88 (k5 : Int32 → Int32 → Option Int32) (x1 : Int32) (x2 : Int32) (x3 : Int32) (x4 : Int32) (x5 : Int32) (s : sg) : Option Int32 :=
  if x3 < x5 then
    k5 x5 (x4 + (nI 1))
  else
    k5 x3 (x4 + (nI 1))
set_option maxRecDepth 100000 in
theorem ok_M_worstAt_88 {k5 : Int32 → Int32 → Option Int32} {x1 : Int32} {x2 : Int32} {x3 : Int32} {x4 : Int32} {x5 : Int32} {s : sg} {rv : Int32} (hk5 : ∀ (x3 : Int32) (x4 : Int32) (rv : Int32), k5 x3 x4 = some rv → mEnds [] 0 174 (5, [some (.ref 10), some (.int x1), some (.int x2), some (.int x3), some (.int x4), none, none], [], hp shM s, 0, 0) (some (.int rv), hp shM s, 0, 0)) (hf : M_worstAt_88 k5 x1 x2 x3 x4 x5 s = some rv) : mEnds [] 0 174 (88, [some (.ref 10), some (.int x1), some (.int x2), some (.int x3), some (.int x4), some (.int x5), none], [], hp shM s, 0, 0) (some (.int rv), hp shM s, 0, 0) := by
  unfold M_worstAt_88 at hf
  refine mEnds.stp 2 (pc' := 91) (l' := [some (.ref 10), some (.int x1), some (.int x2), some (.int x3), some (.int x4), some (.int x5), none]) (st' := [.int x3, .int x5]) (fun _ => rfl) ?_
  by_cases hc1 : x3 < x5
  · rw [if_pos hc1] at hf
    refine t_cF (rfl : mfetch 174 91 = some (91, .if_icmp .le 8, 3, 0, 0, 0)) (k_le' hc1) ?_
    refine mEnds.stp 5 (pc' := 5) (l' := [some (.ref 10), some (.int x1), some (.int x2), some (.int x5), some (.int (x4 + (nI 1))), some (.int x5), none]) (st' := []) (fun _ => rfl) ?_
    refine mEnds.cut (l := [some (.ref 10), some (.int x1), some (.int x2), some (.int x5), some (.int (x4 + (nI 1))), none, none]) ⟨rfl, ⟨rfl, ⟨rfl, ⟨rfl, ⟨rfl, trivial⟩⟩⟩⟩⟩ ?_
    exact hk5 x5 (x4 + (nI 1)) _ hf
  · rw [if_neg hc1] at hf
    refine t_cT (t := 99) (rfl : mfetch 174 91 = some (91, .if_icmp .le 8, 3, 0, 0, 0)) rfl (k_le hc1) ?_
    refine mEnds.stp 4 (pc' := 5) (l' := [some (.ref 10), some (.int x1), some (.int x2), some (.int x3), some (.int (x4 + (nI 1))), some (.int x5), none]) (st' := []) (fun _ => rfl) ?_
    refine mEnds.cut (l := [some (.ref 10), some (.int x1), some (.int x2), some (.int x3), some (.int (x4 + (nI 1))), none, none]) ⟨rfl, ⟨rfl, ⟨rfl, ⟨rfl, ⟨rfl, trivial⟩⟩⟩⟩⟩ ?_
    exact hk5 x3 (x4 + (nI 1)) _ hf
def M_worstAt_18 (k5 : Int32 → Int32 → Option Int32) (x1 : Int32) (x2 : Int32) (x3 : Int32) (x4 : Int32) (s : sg) : Nat → Int32 → Int32 → Option Int32
  | 0, _, _ => none
  | fu + 1, x5, x6 =>
  if nI 9 < x6 then
    M_worstAt_88 k5 x1 x2 x3 x4 x5 s
  else
    if (x1 >>> (x4 &&& 31)) &&& (nI 1) = nI 1 then
      if (x1 >>> (x6 &&& 31)) &&& (nI 1) = nI 1 then
        (midx (((nI 126) * x4) + x2) 1260).bind fun j1 =>
        (midx (((nI 126) * x6) + x2) 1260).bind fun j2 =>
        if s 18 j1 = s 18 j2 then
          M_worstAt_18 k5 x1 x2 x3 x4 s fu (x5 + (nI 1)) (x6 + (nI 1))
        else
          M_worstAt_78 k5 (M_worstAt_18 k5 x1 x2 x3 x4 s fu) x1 x2 x3 x4 x6 x5 s
      else
        M_worstAt_78 k5 (M_worstAt_18 k5 x1 x2 x3 x4 s fu) x1 x2 x3 x4 x6 x5 s
    else
      M_worstAt_88 k5 x1 x2 x3 x4 x5 s
set_option maxRecDepth 100000 in
theorem ok_M_worstAt_18 {k5 : Int32 → Int32 → Option Int32} {x1 : Int32} {x2 : Int32} {x3 : Int32} {x4 : Int32} {s : sg} (hk5 : ∀ (x3 : Int32) (x4 : Int32) (rv : Int32), k5 x3 x4 = some rv → mEnds [] 0 174 (5, [some (.ref 10), some (.int x1), some (.int x2), some (.int x3), some (.int x4), none, none], [], hp shM s, 0, 0) (some (.int rv), hp shM s, 0, 0)) : ∀ (fu : Nat) (x5 : Int32) (x6 : Int32) (rv : Int32), M_worstAt_18 k5 x1 x2 x3 x4 s fu x5 x6 = some rv → mEnds [] 0 174 (18, [some (.ref 10), some (.int x1), some (.int x2), some (.int x3), some (.int x4), some (.int x5), some (.int x6)], [], hp shM s, 0, 0) (some (.int rv), hp shM s, 0, 0)
  | 0, _, _, _, hf => by cases hf
  | fu + 1, x5, x6, rv, hf => by
    rw [M_worstAt_18] at hf
    refine mEnds.stp 2 (pc' := 22) (l' := [some (.ref 10), some (.int x1), some (.int x2), some (.int x3), some (.int x4), some (.int x5), some (.int x6)]) (st' := [.int (nI 9), .int x6]) (fun _ => rfl) ?_
    by_cases hc1 : nI 9 < x6
    · rw [if_pos hc1] at hf
      refine t_cT (t := 88) (rfl : mfetch 174 22 = some (22, .if_icmp .gt 66, 3, 0, 0, 0)) rfl (k_gt hc1) ?_
      refine mEnds.cut (l := [some (.ref 10), some (.int x1), some (.int x2), some (.int x3), some (.int x4), some (.int x5), none]) ⟨rfl, ⟨rfl, ⟨rfl, ⟨rfl, ⟨rfl, ⟨rfl, trivial⟩⟩⟩⟩⟩⟩ ?_
      exact ok_M_worstAt_88 hk5 hf
    · rw [if_neg hc1] at hf
      refine t_cF (rfl : mfetch 174 22 = some (22, .if_icmp .gt 66, 3, 0, 0, 0)) (k_gt' hc1) ?_
      refine mEnds.stp 6 (pc' := 32) (l' := [some (.ref 10), some (.int x1), some (.int x2), some (.int x3), some (.int x4), some (.int x5), some (.int x6)]) (st' := [.int (nI 1), .int ((x1 >>> (x4 &&& 31)) &&& (nI 1))]) (fun _ => rfl) ?_
      by_cases hc2 : (x1 >>> (x4 &&& 31)) &&& (nI 1) = nI 1
      · rw [if_pos hc2] at hf
        refine t_cF (rfl : mfetch 174 32 = some (32, .if_icmp .ne 56, 3, 0, 0, 0)) (k_ne' hc2) ?_
        refine mEnds.stp 7 (pc' := 44) (l' := [some (.ref 10), some (.int x1), some (.int x2), some (.int x3), some (.int x4), some (.int x5), some (.int x6)]) (st' := [.int (nI 1), .int ((x1 >>> (x6 &&& 31)) &&& (nI 1)), .int x5]) (fun _ => rfl) ?_
        by_cases hc3 : (x1 >>> (x6 &&& 31)) &&& (nI 1) = nI 1
        · rw [if_pos hc3] at hf
          refine t_cF (rfl : mfetch 174 44 = some (44, .if_icmp .ne 34, 3, 0, 0, 0)) (k_ne' hc3) ?_
          refine mEnds.stp 1 (pc' := 48) (l' := [some (.ref 10), some (.int x1), some (.int x2), some (.int x3), some (.int x4), some (.int x5), some (.int x6)]) (st' := [.ref 10, .int x5]) (fun _ => rfl) ?_
          refine t_gr (rfl : mfetch 174 48 = some (48, .getfield 31, 3, 5, 23, 0)) rfl rfl ?_
          refine mEnds.stp 5 (pc' := 58) (l' := [some (.ref 10), some (.int x1), some (.int x2), some (.int x3), some (.int x4), some (.int x5), some (.int x6)]) (st' := [.int (((nI 126) * x4) + x2), .ref 18, .int x5]) (fun _ => rfl) ?_
          obtain ⟨j1, hj1, hf⟩ := ob hf
          refine t_ia (rfl : mfetch 174 58 = some (58, .iaload, 1, 0, 0, 0)) rfl rfl hj1 ?_
          refine mEnds.stp 1 (pc' := 60) (l' := [some (.ref 10), some (.int x1), some (.int x2), some (.int x3), some (.int x4), some (.int x5), some (.int x6)]) (st' := [.ref 10, .int (s 18 j1), .int x5]) (fun _ => rfl) ?_
          refine t_gr (rfl : mfetch 174 60 = some (60, .getfield 31, 3, 5, 23, 0)) rfl rfl ?_
          refine mEnds.stp 5 (pc' := 70) (l' := [some (.ref 10), some (.int x1), some (.int x2), some (.int x3), some (.int x4), some (.int x5), some (.int x6)]) (st' := [.int (((nI 126) * x6) + x2), .ref 18, .int (s 18 j1), .int x5]) (fun _ => rfl) ?_
          obtain ⟨j2, hj2, hf⟩ := ob hf
          refine t_ia (rfl : mfetch 174 70 = some (70, .iaload, 1, 0, 0, 0)) rfl rfl hj2 ?_
          by_cases hc4 : s 18 j1 = s 18 j2
          · rw [if_pos hc4] at hf
            refine t_cF (rfl : mfetch 174 71 = some (71, .if_icmp .ne 7, 3, 0, 0, 0)) (k_ne' hc4) ?_
            refine mEnds.stp 6 (pc' := 18) (l' := [some (.ref 10), some (.int x1), some (.int x2), some (.int x3), some (.int x4), some (.int (x5 + (nI 1))), some (.int (x6 + (nI 1)))]) (st' := []) (fun _ => rfl) ?_
            refine mEnds.cut (l := [some (.ref 10), some (.int x1), some (.int x2), some (.int x3), some (.int x4), some (.int (x5 + (nI 1))), some (.int (x6 + (nI 1)))]) ⟨rfl, ⟨rfl, ⟨rfl, ⟨rfl, ⟨rfl, ⟨rfl, ⟨rfl, trivial⟩⟩⟩⟩⟩⟩⟩ ?_
            exact ok_M_worstAt_18 hk5 fu (x5 + (nI 1)) (x6 + (nI 1)) _ hf
          · rw [if_neg hc4] at hf
            refine t_cT (t := 78) (rfl : mfetch 174 71 = some (71, .if_icmp .ne 7, 3, 0, 0, 0)) rfl (k_ne hc4) ?_
            refine mEnds.cut (l := [some (.ref 10), some (.int x1), some (.int x2), some (.int x3), some (.int x4), none, some (.int x6)]) ⟨rfl, ⟨rfl, ⟨rfl, ⟨rfl, ⟨rfl, ⟨rfl, trivial⟩⟩⟩⟩⟩⟩ ?_
            exact ok_M_worstAt_78 hk5 (ok_M_worstAt_18 hk5 fu) hf
        · rw [if_neg hc3] at hf
          refine t_cT (t := 78) (rfl : mfetch 174 44 = some (44, .if_icmp .ne 34, 3, 0, 0, 0)) rfl (k_ne hc3) ?_
          refine mEnds.cut (l := [some (.ref 10), some (.int x1), some (.int x2), some (.int x3), some (.int x4), none, some (.int x6)]) ⟨rfl, ⟨rfl, ⟨rfl, ⟨rfl, ⟨rfl, ⟨rfl, trivial⟩⟩⟩⟩⟩⟩ ?_
          exact ok_M_worstAt_78 hk5 (ok_M_worstAt_18 hk5 fu) hf
      · rw [if_neg hc2] at hf
        refine t_cT (t := 88) (rfl : mfetch 174 32 = some (32, .if_icmp .ne 56, 3, 0, 0, 0)) rfl (k_ne hc2) ?_
        refine mEnds.cut (l := [some (.ref 10), some (.int x1), some (.int x2), some (.int x3), some (.int x4), some (.int x5), none]) ⟨rfl, ⟨rfl, ⟨rfl, ⟨rfl, ⟨rfl, ⟨rfl, trivial⟩⟩⟩⟩⟩⟩ ?_
        exact ok_M_worstAt_88 hk5 hf
def M_worstAt_5 (x1 : Int32) (x2 : Int32) (s : sg) : Nat → Int32 → Int32 → Option Int32
  | 0, _, _ => none
  | fu + 1, x3, x4 =>
  if nI 9 < x4 then
    some x3
  else
    M_worstAt_18 (M_worstAt_5 x1 x2 s fu) x1 x2 x3 x4 s FU (nI 0) (nI 0)
set_option maxRecDepth 100000 in
theorem ok_M_worstAt_5 {x1 : Int32} {x2 : Int32} {s : sg} : ∀ (fu : Nat) (x3 : Int32) (x4 : Int32) (rv : Int32), M_worstAt_5 x1 x2 s fu x3 x4 = some rv → mEnds [] 0 174 (5, [some (.ref 10), some (.int x1), some (.int x2), some (.int x3), some (.int x4), none, none], [], hp shM s, 0, 0) (some (.int rv), hp shM s, 0, 0)
  | 0, _, _, _, hf => by cases hf
  | fu + 1, x3, x4, rv, hf => by
    rw [M_worstAt_5] at hf
    refine mEnds.stp 2 (pc' := 9) (l' := [some (.ref 10), some (.int x1), some (.int x2), some (.int x3), some (.int x4), none, none]) (st' := [.int (nI 9), .int x4]) (fun _ => rfl) ?_
    by_cases hc1 : nI 9 < x4
    · rw [if_pos hc1] at hf
      refine t_cT (t := 107) (rfl : mfetch 174 9 = some (9, .if_icmp .gt 98, 3, 0, 0, 0)) rfl (k_gt hc1) ?_
      refine mEnds.stp 1 (pc' := 108) (l' := [some (.ref 10), some (.int x1), some (.int x2), some (.int x3), some (.int x4), none, none]) (st' := [.int x3]) (fun _ => rfl) ?_
      cases hf; exact mEnds.rt (fun _ => rfl)
    · rw [if_neg hc1] at hf
      refine t_cF (rfl : mfetch 174 9 = some (9, .if_icmp .gt 98, 3, 0, 0, 0)) (k_gt' hc1) ?_
      refine mEnds.stp 4 (pc' := 18) (l' := [some (.ref 10), some (.int x1), some (.int x2), some (.int x3), some (.int x4), some (.int (nI 0)), some (.int (nI 0))]) (st' := []) (fun _ => rfl) ?_
      refine mEnds.cut (l := [some (.ref 10), some (.int x1), some (.int x2), some (.int x3), some (.int x4), some (.int (nI 0)), some (.int (nI 0))]) ⟨rfl, ⟨rfl, ⟨rfl, ⟨rfl, ⟨rfl, ⟨rfl, ⟨rfl, trivial⟩⟩⟩⟩⟩⟩⟩ ?_
      exact ok_M_worstAt_18 (ok_M_worstAt_5 fu) FU (nI 0) (nI 0) _ hf
def M_worstAt (x1 : Int32) (x2 : Int32) (s : sg) : Option Int32 :=
  M_worstAt_5 x1 x2 s FU (nI 0) (nI 0)
set_option maxRecDepth 100000 in
theorem ok_M_worstAt {x1 : Int32} {x2 : Int32} {s : sg} {rv : Int32} (hf : M_worstAt x1 x2 s = some rv) : mEnds [] 0 174 (0, [some (.ref 10), some (.int x1), some (.int x2), none, none, none, none], [], hp shM s, 0, 0) (some (.int rv), hp shM s, 0, 0) := by
  unfold M_worstAt at hf
  refine mEnds.stp 4 (pc' := 5) (l' := [some (.ref 10), some (.int x1), some (.int x2), some (.int (nI 0)), some (.int (nI 0)), none, none]) (st' := []) (fun _ => rfl) ?_
  refine mEnds.cut (l := [some (.ref 10), some (.int x1), some (.int x2), some (.int (nI 0)), some (.int (nI 0)), none, none]) ⟨rfl, ⟨rfl, ⟨rfl, ⟨rfl, ⟨rfl, trivial⟩⟩⟩⟩⟩ ?_
  exact ok_M_worstAt_5 FU (nI 0) (nI 0) _ hf
def M_ask_124 (k70 : Int32 → Int32 → Int32 → sg → Option (Int32 × sg)) (k80 : Int32 → Int32 → Int32 → sg → Option (Int32 × sg)) (x2 : Int32) (x3 : Int32) (x4 : Int32) (x6 : Int32) (x7 : Int32) (x8 : Int32) (y0 : Int32) (s : sg) : Option (Int32 × sg) :=
  if x8 < x4 then
    k80 x8 y0 (x7 + (nI 1)) s
  else
    k80 x4 y0 (x7 + (nI 1)) s
set_option maxRecDepth 100000 in
theorem ok_M_ask_124 {k70 : Int32 → Int32 → Int32 → sg → Option (Int32 × sg)} {k80 : Int32 → Int32 → Int32 → sg → Option (Int32 × sg)} {x2 : Int32} {x3 : Int32} {x4 : Int32} {x6 : Int32} {x7 : Int32} {x8 : Int32} {y0 : Int32} {s : sg} {rv : (Int32 × sg)} (hk70 : ∀ (x4 : Int32) (x5 : Int32) (x6 : Int32) (s : sg) (rv : (Int32 × sg)), k70 x4 x5 x6 s = some rv → mEnds [] 6 175 (70, [some (.ref 10), none, some (.int x2), some (.int x3), some (.int x4), some (.int x5), some (.int x6), none, none], [], hp shM s, 0, 0) (some (.int rv.1), hp shM rv.2, 0, 0)) (hk80 : ∀ (x4 : Int32) (x5 : Int32) (x7 : Int32) (s : sg) (rv : (Int32 × sg)), k80 x4 x5 x7 s = some rv → mEnds [] 6 175 (80, [some (.ref 10), none, some (.int x2), some (.int x3), some (.int x4), some (.int x5), some (.int x6), some (.int x7), none], [], hp shM s, 0, 0) (some (.int rv.1), hp shM rv.2, 0, 0)) (hf : M_ask_124 k70 k80 x2 x3 x4 x6 x7 x8 y0 s = some rv) : mEnds [] 6 175 (124, [some (.ref 10), none, some (.int x2), some (.int x3), some (.int x4), none, some (.int x6), some (.int x7), some (.int x8)], [.int y0], hp shM s, 0, 0) (some (.int rv.1), hp shM rv.2, 0, 0) := by
  unfold M_ask_124 at hf
  refine mEnds.stp 3 (pc' := 130) (l' := [some (.ref 10), none, some (.int x2), some (.int x3), some (.int x4), some (.int y0), some (.int x6), some (.int x7), some (.int x8)]) (st' := [.int x4, .int x8]) (fun _ => rfl) ?_
  by_cases hc1 : x8 < x4
  · rw [if_pos hc1] at hf
    refine t_cF (rfl : mfetch 175 130 = some (130, .if_icmp .ge 8, 3, 0, 0, 0)) (k_ge' hc1) ?_
    refine mEnds.stp 5 (pc' := 80) (l' := [some (.ref 10), none, some (.int x2), some (.int x3), some (.int x8), some (.int y0), some (.int x6), some (.int (x7 + (nI 1))), some (.int x8)]) (st' := []) (fun _ => rfl) ?_
    refine mEnds.cut (l := [some (.ref 10), none, some (.int x2), some (.int x3), some (.int x8), some (.int y0), some (.int x6), some (.int (x7 + (nI 1))), none]) ⟨rfl, ⟨rfl, ⟨rfl, ⟨rfl, ⟨rfl, ⟨rfl, ⟨rfl, trivial⟩⟩⟩⟩⟩⟩⟩ ?_
    exact hk80 x8 y0 (x7 + (nI 1)) s _ hf
  · rw [if_neg hc1] at hf
    refine t_cT (t := 138) (rfl : mfetch 175 130 = some (130, .if_icmp .ge 8, 3, 0, 0, 0)) rfl (k_ge hc1) ?_
    refine mEnds.stp 4 (pc' := 80) (l' := [some (.ref 10), none, some (.int x2), some (.int x3), some (.int x4), some (.int y0), some (.int x6), some (.int (x7 + (nI 1))), some (.int x8)]) (st' := []) (fun _ => rfl) ?_
    refine mEnds.cut (l := [some (.ref 10), none, some (.int x2), some (.int x3), some (.int x4), some (.int y0), some (.int x6), some (.int (x7 + (nI 1))), none]) ⟨rfl, ⟨rfl, ⟨rfl, ⟨rfl, ⟨rfl, ⟨rfl, ⟨rfl, trivial⟩⟩⟩⟩⟩⟩⟩ ?_
    exact hk80 x4 y0 (x7 + (nI 1)) s _ hf
def M_ask_80 (k70 : Int32 → Int32 → Int32 → sg → Option (Int32 × sg)) (x2 : Int32) (x3 : Int32) (x6 : Int32) : Nat → Int32 → Int32 → Int32 → sg → Option (Int32 × sg)
  | 0, _, _, _, _ => none
  | fu + 1, x4, x5, x7, s =>
  if x7 < s 10 1 then
    (M_worstAt x3 (((nI 6) * x6) + x7) s).bind fun v1 =>
    if v1 < x4 then
      M_ask_124 k70 (M_ask_80 k70 x2 x3 x6 fu) x2 x3 x4 x6 x7 v1 (((nI 10) * x6) + x7) s
    else
      M_ask_124 k70 (M_ask_80 k70 x2 x3 x6 fu) x2 x3 x4 x6 x7 v1 x5 s
  else
    k70 x4 x5 (x6 + (nI 1)) s
set_option maxRecDepth 100000 in
theorem ok_M_ask_80 {k70 : Int32 → Int32 → Int32 → sg → Option (Int32 × sg)} {x2 : Int32} {x3 : Int32} {x6 : Int32} (hk70 : ∀ (x4 : Int32) (x5 : Int32) (x6 : Int32) (s : sg) (rv : (Int32 × sg)), k70 x4 x5 x6 s = some rv → mEnds [] 6 175 (70, [some (.ref 10), none, some (.int x2), some (.int x3), some (.int x4), some (.int x5), some (.int x6), none, none], [], hp shM s, 0, 0) (some (.int rv.1), hp shM rv.2, 0, 0)) : ∀ (fu : Nat) (x4 : Int32) (x5 : Int32) (x7 : Int32) (s : sg) (rv : (Int32 × sg)), M_ask_80 k70 x2 x3 x6 fu x4 x5 x7 s = some rv → mEnds [] 6 175 (80, [some (.ref 10), none, some (.int x2), some (.int x3), some (.int x4), some (.int x5), some (.int x6), some (.int x7), none], [], hp shM s, 0, 0) (some (.int rv.1), hp shM rv.2, 0, 0)
  | 0, _, _, _, _, _, hf => by cases hf
  | fu + 1, x4, x5, x7, s, rv, hf => by
    rw [M_ask_80] at hf
    refine mEnds.stp 2 (pc' := 83) (l' := [some (.ref 10), none, some (.int x2), some (.int x3), some (.int x4), some (.int x5), some (.int x6), some (.int x7), none]) (st' := [.ref 10, .int x7]) (fun _ => rfl) ?_
    refine t_gi (rfl : mfetch 175 83 = some (83, .getfield 139, 3, 5, 1, 0)) rfl rfl ?_
    by_cases hc1 : x7 < s 10 1
    · rw [if_pos hc1] at hf
      refine t_cF (rfl : mfetch 175 86 = some (86, .if_icmp .ge 62, 3, 0, 0, 0)) (k_ge' hc1) ?_
      refine mEnds.stp 7 (pc' := 99) (l' := [some (.ref 10), none, some (.int x2), some (.int x3), some (.int x4), some (.int x5), some (.int x6), some (.int x7), none]) (st' := [.int (((nI 6) * x6) + x7), .int x3, .ref 10]) (fun _ => rfl) ?_
      obtain ⟨v1, hv1, hf⟩ := ob hf
      refine t_cv (as := [.int x3, .int (((nI 6) * x6) + x7)]) (st := []) (rfl : mfetch 175 99 = some (99, .invokevirtual 246, 3, 174, 0, 0)) rfl rfl rfl rfl rfl ((ok_M_worstAt hv1).deep 5) ?_
      refine mEnds.stp 3 (pc' := 108) (l' := [some (.ref 10), none, some (.int x2), some (.int x3), some (.int x4), some (.int x5), some (.int x6), some (.int x7), some (.int v1)]) (st' := [.int x4, .int v1]) (fun _ => rfl) ?_
      by_cases hc2 : v1 < x4
      · rw [if_pos hc2] at hf
        refine t_cF (rfl : mfetch 175 108 = some (108, .if_icmp .ge 14, 3, 0, 0, 0)) (k_ge' hc2) ?_
        refine mEnds.stp 6 (pc' := 124) (l' := [some (.ref 10), none, some (.int x2), some (.int x3), some (.int x4), some (.int x5), some (.int x6), some (.int x7), some (.int v1)]) (st' := [.int (((nI 10) * x6) + x7)]) (fun _ => rfl) ?_
        refine mEnds.cut (l := [some (.ref 10), none, some (.int x2), some (.int x3), some (.int x4), none, some (.int x6), some (.int x7), some (.int v1)]) ⟨rfl, ⟨rfl, ⟨rfl, ⟨rfl, ⟨rfl, ⟨rfl, ⟨rfl, trivial⟩⟩⟩⟩⟩⟩⟩ ?_
        exact ok_M_ask_124 hk70 (ok_M_ask_80 hk70 fu) hf
      · rw [if_neg hc2] at hf
        refine t_cT (t := 122) (rfl : mfetch 175 108 = some (108, .if_icmp .ge 14, 3, 0, 0, 0)) rfl (k_ge hc2) ?_
        refine mEnds.stp 1 (pc' := 124) (l' := [some (.ref 10), none, some (.int x2), some (.int x3), some (.int x4), some (.int x5), some (.int x6), some (.int x7), some (.int v1)]) (st' := [.int x5]) (fun _ => rfl) ?_
        refine mEnds.cut (l := [some (.ref 10), none, some (.int x2), some (.int x3), some (.int x4), none, some (.int x6), some (.int x7), some (.int v1)]) ⟨rfl, ⟨rfl, ⟨rfl, ⟨rfl, ⟨rfl, ⟨rfl, ⟨rfl, trivial⟩⟩⟩⟩⟩⟩⟩ ?_
        exact ok_M_ask_124 hk70 (ok_M_ask_80 hk70 fu) hf
    · rw [if_neg hc1] at hf
      refine t_cT (t := 148) (rfl : mfetch 175 86 = some (86, .if_icmp .ge 62, 3, 0, 0, 0)) rfl (k_ge hc1) ?_
      refine mEnds.stp 2 (pc' := 70) (l' := [some (.ref 10), none, some (.int x2), some (.int x3), some (.int x4), some (.int x5), some (.int (x6 + (nI 1))), some (.int x7), none]) (st' := []) (fun _ => rfl) ?_
      refine mEnds.cut (l := [some (.ref 10), none, some (.int x2), some (.int x3), some (.int x4), some (.int x5), some (.int (x6 + (nI 1))), none, none]) ⟨rfl, ⟨rfl, ⟨rfl, ⟨rfl, ⟨rfl, ⟨rfl, trivial⟩⟩⟩⟩⟩⟩ ?_
      exact hk70 x4 x5 (x6 + (nI 1)) s _ hf
def M_ask_70 (x2 : Int32) (x3 : Int32) : Nat → Int32 → Int32 → Int32 → sg → Option (Int32 × sg)
  | 0, _, _, _, _ => none
  | fu + 1, x4, x5, x6, s =>
  if nI 20 < x6 then
    if x5 = (-4) then
      some (x5, s)
    else
      if x2 = 0 then
        some (x5, s)
      else
        some (x4, s)
  else
    M_ask_80 (M_ask_70 x2 x3 fu) x2 x3 x6 FU x4 x5 (nI 0) s
set_option maxRecDepth 100000 in
theorem ok_M_ask_70 {x2 : Int32} {x3 : Int32} : ∀ (fu : Nat) (x4 : Int32) (x5 : Int32) (x6 : Int32) (s : sg) (rv : (Int32 × sg)), M_ask_70 x2 x3 fu x4 x5 x6 s = some rv → mEnds [] 6 175 (70, [some (.ref 10), none, some (.int x2), some (.int x3), some (.int x4), some (.int x5), some (.int x6), none, none], [], hp shM s, 0, 0) (some (.int rv.1), hp shM rv.2, 0, 0)
  | 0, _, _, _, _, _, hf => by cases hf
  | fu + 1, x4, x5, x6, s, rv, hf => by
    rw [M_ask_70] at hf
    refine mEnds.stp 2 (pc' := 74) (l' := [some (.ref 10), none, some (.int x2), some (.int x3), some (.int x4), some (.int x5), some (.int x6), none, none]) (st' := [.int (nI 20), .int x6]) (fun _ => rfl) ?_
    by_cases hc1 : nI 20 < x6
    · rw [if_pos hc1] at hf
      refine t_cT (t := 154) (rfl : mfetch 175 74 = some (74, .if_icmp .gt 80, 3, 0, 0, 0)) rfl (k_gt hc1) ?_
      refine mEnds.stp 2 (pc' := 158) (l' := [some (.ref 10), none, some (.int x2), some (.int x3), some (.int x4), some (.int x5), some (.int x6), none, none]) (st' := [.int (-4), .int x5]) (fun _ => rfl) ?_
      by_cases hc2 : x5 = (-4)
      · rw [if_pos hc2] at hf
        refine t_cT (t := 165) (rfl : mfetch 175 158 = some (158, .if_icmp .eq 7, 3, 0, 0, 0)) rfl (k_eq hc2) ?_
        refine mEnds.stp 2 (pc' := 172) (l' := [some (.ref 10), none, some (.int x2), some (.int x3), some (.int x4), some (.int x5), some (.int x6), none, none]) (st' := [.int x5]) (fun _ => rfl) ?_
        exact mEnds.rti (Option.some.inj hf) (fun _ => rfl)
      · rw [if_neg hc2] at hf
        refine t_cF (rfl : mfetch 175 158 = some (158, .if_icmp .eq 7, 3, 0, 0, 0)) (k_eq' hc2) ?_
        refine mEnds.stp 1 (pc' := 162) (l' := [some (.ref 10), none, some (.int x2), some (.int x3), some (.int x4), some (.int x5), some (.int x6), none, none]) (st' := [.int x2]) (fun _ => rfl) ?_
        by_cases hc3 : x2 = 0
        · rw [if_pos hc3] at hf
          refine t_jF (rfl : mfetch 175 162 = some (162, .ifCond .ne 8, 3, 0, 0, 0)) (k_ne' hc3) ?_
          refine mEnds.stp 2 (pc' := 172) (l' := [some (.ref 10), none, some (.int x2), some (.int x3), some (.int x4), some (.int x5), some (.int x6), none, none]) (st' := [.int x5]) (fun _ => rfl) ?_
          exact mEnds.rti (Option.some.inj hf) (fun _ => rfl)
        · rw [if_neg hc3] at hf
          refine t_jT (t := 170) (rfl : mfetch 175 162 = some (162, .ifCond .ne 8, 3, 0, 0, 0)) rfl (k_ne hc3) ?_
          refine mEnds.stp 1 (pc' := 172) (l' := [some (.ref 10), none, some (.int x2), some (.int x3), some (.int x4), some (.int x5), some (.int x6), none, none]) (st' := [.int x4]) (fun _ => rfl) ?_
          exact mEnds.rti (Option.some.inj hf) (fun _ => rfl)
    · rw [if_neg hc1] at hf
      refine t_cF (rfl : mfetch 175 74 = some (74, .if_icmp .gt 80, 3, 0, 0, 0)) (k_gt' hc1) ?_
      refine mEnds.stp 2 (pc' := 80) (l' := [some (.ref 10), none, some (.int x2), some (.int x3), some (.int x4), some (.int x5), some (.int x6), some (.int (nI 0)), none]) (st' := []) (fun _ => rfl) ?_
      refine mEnds.cut (l := [some (.ref 10), none, some (.int x2), some (.int x3), some (.int x4), some (.int x5), some (.int x6), some (.int (nI 0)), none]) ⟨rfl, ⟨rfl, ⟨rfl, ⟨rfl, ⟨rfl, ⟨rfl, ⟨rfl, trivial⟩⟩⟩⟩⟩⟩⟩ ?_
      exact ok_M_ask_80 (ok_M_ask_70 fu) FU x4 x5 (nI 0) s _ hf
def M_ask_39 (x2 : Int32) (x3 : Int32) : Nat → Int32 → Int32 → sg → Option (Int32 × sg)
  | 0, _, _, _ => none
  | fu + 1, x4, x5, s =>
  if nI 9 < x5 then
    M_ask_70 x2 x3 FU x4 (-4) (nI 0) s
  else
    M_ask_39 x2 x3 fu (x4 + ((x3 >>> (x5 &&& 31)) &&& (nI 1))) (x5 + (nI 1)) s
set_option maxRecDepth 100000 in
theorem ok_M_ask_39 {x2 : Int32} {x3 : Int32} : ∀ (fu : Nat) (x4 : Int32) (x5 : Int32) (s : sg) (rv : (Int32 × sg)), M_ask_39 x2 x3 fu x4 x5 s = some rv → mEnds [] 6 175 (39, [some (.ref 10), none, some (.int x2), some (.int x3), some (.int x4), some (.int x5), none, none, none], [], hp shM s, 0, 0) (some (.int rv.1), hp shM rv.2, 0, 0)
  | 0, _, _, _, _, hf => by cases hf
  | fu + 1, x4, x5, s, rv, hf => by
    rw [M_ask_39] at hf
    refine mEnds.stp 2 (pc' := 43) (l' := [some (.ref 10), none, some (.int x2), some (.int x3), some (.int x4), some (.int x5), none, none, none]) (st' := [.int (nI 9), .int x5]) (fun _ => rfl) ?_
    by_cases hc1 : nI 9 < x5
    · rw [if_pos hc1] at hf
      refine t_cT (t := 63) (rfl : mfetch 175 43 = some (43, .if_icmp .gt 20, 3, 0, 0, 0)) rfl (k_gt hc1) ?_
      refine mEnds.stp 4 (pc' := 70) (l' := [some (.ref 10), none, some (.int x2), some (.int x3), some (.int x4), some (.int (-4)), some (.int (nI 0)), none, none]) (st' := []) (fun _ => rfl) ?_
      refine mEnds.cut (l := [some (.ref 10), none, some (.int x2), some (.int x3), some (.int x4), some (.int (-4)), some (.int (nI 0)), none, none]) ⟨rfl, ⟨rfl, ⟨rfl, ⟨rfl, ⟨rfl, ⟨rfl, trivial⟩⟩⟩⟩⟩⟩ ?_
      exact ok_M_ask_70 FU x4 (-4) (nI 0) s _ hf
    · rw [if_neg hc1] at hf
      refine t_cF (rfl : mfetch 175 43 = some (43, .if_icmp .gt 20, 3, 0, 0, 0)) (k_gt' hc1) ?_
      refine mEnds.stp 10 (pc' := 39) (l' := [some (.ref 10), none, some (.int x2), some (.int x3), some (.int (x4 + ((x3 >>> (x5 &&& 31)) &&& (nI 1)))), some (.int (x5 + (nI 1))), none, none, none]) (st' := []) (fun _ => rfl) ?_
      refine mEnds.cut (l := [some (.ref 10), none, some (.int x2), some (.int x3), some (.int (x4 + ((x3 >>> (x5 &&& 31)) &&& (nI 1)))), some (.int (x5 + (nI 1))), none, none, none]) ⟨rfl, ⟨rfl, ⟨rfl, ⟨rfl, ⟨rfl, trivial⟩⟩⟩⟩⟩ ?_
      exact ok_M_ask_39 fu (x4 + ((x3 >>> (x5 &&& 31)) &&& (nI 1))) (x5 + (nI 1)) s _ hf
def M_ask (x1 : Int32) (x2 : Int32) (s : sg) : Option (Int32 × sg) :=
  (M_isWall x1 s).bind fun v1 =>
  if v1 = 0 then
    some ((-1), s)
  else
    (M_in x2.toInt64 (0 : Int64) (1 : Int64) s).bind fun v2 =>
    if v2 = 0 then
      some ((-1), s)
    else
      (M_numbersAt ((nI 36) + x1) (-2) (nI 10) s).bind fun v3 =>
      M_ask_39 x2 v3.1 FU (nI 0) (nI 0) v3.2
set_option maxRecDepth 100000 in
theorem ok_M_ask {x1 : Int32} {x2 : Int32} {s : sg} {rv : (Int32 × sg)} (hf : M_ask x1 x2 s = some rv) : mEnds [] 6 175 (0, [some (.ref 10), some (.int x1), some (.int x2), none, none, none, none, none, none], [], hp shM s, 0, 0) (some (.int rv.1), hp shM rv.2, 0, 0) := by
  unfold M_ask at hf
  refine mEnds.stp 2 (pc' := 2) (l' := [some (.ref 10), some (.int x1), some (.int x2), none, none, none, none, none, none]) (st' := [.int x1, .ref 10]) (fun _ => rfl) ?_
  obtain ⟨v1, hv1, hf⟩ := ob hf
  refine t_cv (as := [.int x1]) (st := []) (rfl : mfetch 175 2 = some (2, .invokevirtual 176, 3, 127, 0, 0)) rfl rfl rfl rfl rfl ((ok_M_isWall hv1).deep 4) ?_
  by_cases hc1 : v1 = 0
  · rw [if_pos hc1] at hf
    refine t_jT (t := 18) (rfl : mfetch 175 5 = some (5, .ifCond .eq 13, 3, 0, 0, 0)) rfl (k_eq hc1) ?_
    refine mEnds.stp 1 (pc' := 19) (l' := [some (.ref 10), some (.int x1), some (.int x2), none, none, none, none, none, none]) (st' := [.int (-1)]) (fun _ => rfl) ?_
    exact mEnds.rti (Option.some.inj hf) (fun _ => rfl)
  · rw [if_neg hc1] at hf
    refine t_jF (rfl : mfetch 175 5 = some (5, .ifCond .eq 13, 3, 0, 0, 0)) (k_eq' hc1) ?_
    refine mEnds.stp 4 (pc' := 12) (l' := [some (.ref 10), some (.int x1), some (.int x2), none, none, none, none, none, none]) (st' := [.long (1 : Int64), .long (0 : Int64), .long x2.toInt64]) (fun _ => rfl) ?_
    obtain ⟨v2, hv2, hf⟩ := ob hf
    refine t_cs (as := [.long x2.toInt64, .long (0 : Int64), .long (1 : Int64)]) (st := []) (Or.inl rfl) (rfl : mfetch 175 12 = some (12, .invokestatic 49, 3, 111, 0, 0)) rfl rfl rfl ((ok_M_in hv2).deep 5) ?_
    by_cases hc2 : v2 = 0
    · rw [if_pos hc2] at hf
      refine t_jF (rfl : mfetch 175 15 = some (15, .ifCond .ne 5, 3, 0, 0, 0)) (k_ne' hc2) ?_
      refine mEnds.stp 1 (pc' := 19) (l' := [some (.ref 10), some (.int x1), some (.int x2), none, none, none, none, none, none]) (st' := [.int (-1)]) (fun _ => rfl) ?_
      exact mEnds.rti (Option.some.inj hf) (fun _ => rfl)
    · rw [if_neg hc2] at hf
      refine t_jT (t := 20) (rfl : mfetch 175 15 = some (15, .ifCond .ne 5, 3, 0, 0, 0)) rfl (k_ne hc2) ?_
      refine mEnds.stp 6 (pc' := 29) (l' := [some (.ref 10), some (.int x1), some (.int x2), none, none, none, none, none, none]) (st' := [.int (nI 10), .int (-2), .int ((nI 36) + x1), .ref 10]) (fun _ => rfl) ?_
      obtain ⟨v3, hv3, hf⟩ := ob hf
      refine t_cv (as := [.int ((nI 36) + x1), .int (-2), .int (nI 10)]) (st := []) (rfl : mfetch 175 29 = some (29, .invokevirtual 242, 3, 171, 0, 0)) rfl rfl rfl rfl rfl (ok_M_numbersAt hv3) ?_
      refine mEnds.stp 5 (pc' := 39) (l' := [some (.ref 10), some (.int x1), some (.int x2), some (.int v3.1), some (.int (nI 0)), some (.int (nI 0)), none, none, none]) (st' := []) (fun _ => rfl) ?_
      refine mEnds.cut (l := [some (.ref 10), none, some (.int x2), some (.int v3.1), some (.int (nI 0)), some (.int (nI 0)), none, none, none]) ⟨rfl, ⟨rfl, ⟨rfl, ⟨rfl, ⟨rfl, trivial⟩⟩⟩⟩⟩ ?_
      exact ok_M_ask_39 FU (nI 0) (nI 0) v3.2 _ hf
def M_drift_48 (x2 : Int32) (x3 : Int32) : Nat → Int32 → Int32 → sg → Option (Int32 × sg)
  | 0, _, _, _ => none
  | fu + 1, x4, x5, s =>
  if x5 < x2 then
    (M_hourOn (nI 208) (((((x4 * (nI 1103515245)) + (nI 12345)) >>> ((nI 16) &&& 31)) &&& (nI 32767)) - ((((x4 * (nI 1103515245)) + (nI 12345)) >>> ((nI 16) &&& 31)) &&& (nI 32767)) / (nI 40) * (nI 40)) (nI 0) s).bind fun s1 =>
    M_drift_48 x2 x3 fu ((x4 * (nI 1103515245)) + (nI 12345)) (x5 + (nI 1)) s1
  else
    if x3 = 0 then
      (midx (nI 258) 312).bind fun j1 =>
      (midx (nI 50) 312).bind fun j2 =>
      some ((s 11 j1) - (s 11 j2), s)
    else
      (M_warmthOn (nI 208) s).bind fun v1 =>
      some (v1, s)
set_option maxRecDepth 100000 in
theorem ok_M_drift_48 {x2 : Int32} {x3 : Int32} : ∀ (fu : Nat) (x4 : Int32) (x5 : Int32) (s : sg) (rv : (Int32 × sg)), M_drift_48 x2 x3 fu x4 x5 s = some rv → mEnds [] 3 176 (48, [some (.ref 10), none, some (.int x2), some (.int x3), some (.int x4), some (.int x5)], [], hp shM s, 0, 0) (some (.int rv.1), hp shM rv.2, 0, 0)
  | 0, _, _, _, _, hf => by cases hf
  | fu + 1, x4, x5, s, rv, hf => by
    rw [M_drift_48] at hf
    refine mEnds.stp 2 (pc' := 51) (l' := [some (.ref 10), none, some (.int x2), some (.int x3), some (.int x4), some (.int x5)]) (st' := [.int x2, .int x5]) (fun _ => rfl) ?_
    by_cases hc1 : x5 < x2
    · rw [if_pos hc1] at hf
      refine t_cF (rfl : mfetch 176 51 = some (51, .if_icmp .ge 40, 3, 0, 0, 0)) (k_ge' hc1) ?_
      refine mEnds.stp 16 (pc' := 82) (l' := [some (.ref 10), none, some (.int x2), some (.int x3), some (.int ((x4 * (nI 1103515245)) + (nI 12345))), some (.int x5)]) (st' := [.int (nI 0), .int (((((x4 * (nI 1103515245)) + (nI 12345)) >>> ((nI 16) &&& 31)) &&& (nI 32767)) - ((((x4 * (nI 1103515245)) + (nI 12345)) >>> ((nI 16) &&& 31)) &&& (nI 32767)) / (nI 40) * (nI 40)), .int (nI 208), .ref 10]) (fun _ => rfl) ?_
      obtain ⟨s1, hs1, hf⟩ := ob hf
      refine t_cv (as := [.int (nI 208), .int (((((x4 * (nI 1103515245)) + (nI 12345)) >>> ((nI 16) &&& 31)) &&& (nI 32767)) - ((((x4 * (nI 1103515245)) + (nI 12345)) >>> ((nI 16) &&& 31)) &&& (nI 32767)) / (nI 40) * (nI 40)), .int (nI 0)]) (st := []) (rfl : mfetch 176 82 = some (82, .invokevirtual 157, 3, 132, 0, 0)) rfl rfl rfl rfl rfl (ok_M_hourOn hs1) ?_
      refine mEnds.stp 2 (pc' := 48) (l' := [some (.ref 10), none, some (.int x2), some (.int x3), some (.int ((x4 * (nI 1103515245)) + (nI 12345))), some (.int (x5 + (nI 1)))]) (st' := []) (fun _ => rfl) ?_
      refine mEnds.cut (l := [some (.ref 10), none, some (.int x2), some (.int x3), some (.int ((x4 * (nI 1103515245)) + (nI 12345))), some (.int (x5 + (nI 1)))]) ⟨rfl, ⟨rfl, ⟨rfl, ⟨rfl, ⟨rfl, trivial⟩⟩⟩⟩⟩ ?_
      exact ok_M_drift_48 fu ((x4 * (nI 1103515245)) + (nI 12345)) (x5 + (nI 1)) s1 _ hf
    · rw [if_neg hc1] at hf
      refine t_cT (t := 91) (rfl : mfetch 176 51 = some (51, .if_icmp .ge 40, 3, 0, 0, 0)) rfl (k_ge hc1) ?_
      refine mEnds.stp 1 (pc' := 92) (l' := [some (.ref 10), none, some (.int x2), some (.int x3), some (.int x4), some (.int x5)]) (st' := [.int x3]) (fun _ => rfl) ?_
      by_cases hc2 : x3 = 0
      · rw [if_pos hc2] at hf
        refine t_jF (rfl : mfetch 176 92 = some (92, .ifCond .ne 22, 3, 0, 0, 0)) (k_ne' hc2) ?_
        refine mEnds.stp 1 (pc' := 96) (l' := [some (.ref 10), none, some (.int x2), some (.int x3), some (.int x4), some (.int x5)]) (st' := [.ref 10]) (fun _ => rfl) ?_
        refine t_gr (rfl : mfetch 176 96 = some (96, .getfield 7, 3, 5, 0, 0)) rfl rfl ?_
        refine mEnds.stp 1 (pc' := 102) (l' := [some (.ref 10), none, some (.int x2), some (.int x3), some (.int x4), some (.int x5)]) (st' := [.int (nI 258), .ref 11]) (fun _ => rfl) ?_
        obtain ⟨j1, hj1, hf⟩ := ob hf
        refine t_ia (rfl : mfetch 176 102 = some (102, .iaload, 1, 0, 0, 0)) rfl rfl hj1 ?_
        refine mEnds.stp 1 (pc' := 104) (l' := [some (.ref 10), none, some (.int x2), some (.int x3), some (.int x4), some (.int x5)]) (st' := [.ref 10, .int (s 11 j1)]) (fun _ => rfl) ?_
        refine t_gr (rfl : mfetch 176 104 = some (104, .getfield 7, 3, 5, 0, 0)) rfl rfl ?_
        refine mEnds.stp 1 (pc' := 109) (l' := [some (.ref 10), none, some (.int x2), some (.int x3), some (.int x4), some (.int x5)]) (st' := [.int (nI 50), .ref 11, .int (s 11 j1)]) (fun _ => rfl) ?_
        obtain ⟨j2, hj2, hf⟩ := ob hf
        refine t_ia (rfl : mfetch 176 109 = some (109, .iaload, 1, 0, 0, 0)) rfl rfl hj2 ?_
        refine mEnds.stp 2 (pc' := 121) (l' := [some (.ref 10), none, some (.int x2), some (.int x3), some (.int x4), some (.int x5)]) (st' := [.int ((s 11 j1) - (s 11 j2))]) (fun _ => rfl) ?_
        exact mEnds.rti (Option.some.inj hf) (fun _ => rfl)
      · rw [if_neg hc2] at hf
        refine t_jT (t := 114) (rfl : mfetch 176 92 = some (92, .ifCond .ne 22, 3, 0, 0, 0)) rfl (k_ne hc2) ?_
        refine mEnds.stp 2 (pc' := 118) (l' := [some (.ref 10), none, some (.int x2), some (.int x3), some (.int x4), some (.int x5)]) (st' := [.int (nI 208), .ref 10]) (fun _ => rfl) ?_
        obtain ⟨v1, hv1, hf⟩ := ob hf
        refine t_cv (as := [.int (nI 208)]) (st := []) (rfl : mfetch 176 118 = some (118, .invokevirtual 161, 3, 135, 0, 0)) rfl rfl rfl rfl rfl ((ok_M_warmthOn hv1).deep 2) ?_
        exact mEnds.rti (Option.some.inj hf) (fun _ => rfl)
def M_drift (x1 : Int32) (x2 : Int32) (x3 : Int32) (s : sg) : Option (Int32 × sg) :=
  (M_in x2.toInt64 (1 : Int64) (60 : Int64) s).bind fun v1 =>
  if v1 = 0 then
    some ((-1), s)
  else
    (M_in x3.toInt64 (0 : Int64) (1 : Int64) s).bind fun v2 =>
    if v2 = 0 then
      some ((-1), s)
    else
      if s 10 1 = 0 then
        some ((-2), s)
      else
        (M_copies (nI 0) (nI 208) s).bind fun s1 =>
        M_drift_48 x2 x3 FU x1 (nI 0) s1
set_option maxRecDepth 100000 in
theorem ok_M_drift {x1 : Int32} {x2 : Int32} {x3 : Int32} {s : sg} {rv : (Int32 × sg)} (hf : M_drift x1 x2 x3 s = some rv) : mEnds [] 3 176 (0, [some (.ref 10), some (.int x1), some (.int x2), some (.int x3), none, none], [], hp shM s, 0, 0) (some (.int rv.1), hp shM rv.2, 0, 0) := by
  unfold M_drift at hf
  refine mEnds.stp 4 (pc' := 6) (l' := [some (.ref 10), some (.int x1), some (.int x2), some (.int x3), none, none]) (st' := [.long (60 : Int64), .long (1 : Int64), .long x2.toInt64]) (fun _ => rfl) ?_
  obtain ⟨v1, hv1, hf⟩ := ob hf
  refine t_cs (as := [.long x2.toInt64, .long (1 : Int64), .long (60 : Int64)]) (st := []) (Or.inl rfl) (rfl : mfetch 176 6 = some (6, .invokestatic 49, 3, 111, 0, 0)) rfl rfl rfl ((ok_M_in hv1).deep 2) ?_
  by_cases hc1 : v1 = 0
  · rw [if_pos hc1] at hf
    refine t_jT (t := 22) (rfl : mfetch 176 9 = some (9, .ifCond .eq 13, 3, 0, 0, 0)) rfl (k_eq hc1) ?_
    refine mEnds.stp 1 (pc' := 23) (l' := [some (.ref 10), some (.int x1), some (.int x2), some (.int x3), none, none]) (st' := [.int (-1)]) (fun _ => rfl) ?_
    exact mEnds.rti (Option.some.inj hf) (fun _ => rfl)
  · rw [if_neg hc1] at hf
    refine t_jF (rfl : mfetch 176 9 = some (9, .ifCond .eq 13, 3, 0, 0, 0)) (k_eq' hc1) ?_
    refine mEnds.stp 4 (pc' := 16) (l' := [some (.ref 10), some (.int x1), some (.int x2), some (.int x3), none, none]) (st' := [.long (1 : Int64), .long (0 : Int64), .long x3.toInt64]) (fun _ => rfl) ?_
    obtain ⟨v2, hv2, hf⟩ := ob hf
    refine t_cs (as := [.long x3.toInt64, .long (0 : Int64), .long (1 : Int64)]) (st := []) (Or.inl rfl) (rfl : mfetch 176 16 = some (16, .invokestatic 49, 3, 111, 0, 0)) rfl rfl rfl ((ok_M_in hv2).deep 2) ?_
    by_cases hc2 : v2 = 0
    · rw [if_pos hc2] at hf
      refine t_jF (rfl : mfetch 176 19 = some (19, .ifCond .ne 5, 3, 0, 0, 0)) (k_ne' hc2) ?_
      refine mEnds.stp 1 (pc' := 23) (l' := [some (.ref 10), some (.int x1), some (.int x2), some (.int x3), none, none]) (st' := [.int (-1)]) (fun _ => rfl) ?_
      exact mEnds.rti (Option.some.inj hf) (fun _ => rfl)
    · rw [if_neg hc2] at hf
      refine t_jT (t := 24) (rfl : mfetch 176 19 = some (19, .ifCond .ne 5, 3, 0, 0, 0)) rfl (k_ne hc2) ?_
      refine mEnds.stp 1 (pc' := 25) (l' := [some (.ref 10), some (.int x1), some (.int x2), some (.int x3), none, none]) (st' := [.ref 10]) (fun _ => rfl) ?_
      refine t_gi (rfl : mfetch 176 25 = some (25, .getfield 139, 3, 5, 1, 0)) rfl rfl ?_
      by_cases hc3 : s 10 1 = 0
      · rw [if_pos hc3] at hf
        refine t_jF (rfl : mfetch 176 28 = some (28, .ifCond .ne 6, 3, 0, 0, 0)) (k_ne' hc3) ?_
        refine mEnds.stp 1 (pc' := 33) (l' := [some (.ref 10), some (.int x1), some (.int x2), some (.int x3), none, none]) (st' := [.int (-2)]) (fun _ => rfl) ?_
        exact mEnds.rti (Option.some.inj hf) (fun _ => rfl)
      · rw [if_neg hc3] at hf
        refine t_jT (t := 34) (rfl : mfetch 176 28 = some (28, .ifCond .ne 6, 3, 0, 0, 0)) rfl (k_ne hc3) ?_
        refine mEnds.stp 3 (pc' := 39) (l' := [some (.ref 10), some (.int x1), some (.int x2), some (.int x3), none, none]) (st' := [.int (nI 208), .int (nI 0), .ref 10]) (fun _ => rfl) ?_
        obtain ⟨s1, hs1, hf⟩ := ob hf
        refine t_cv (as := [.int (nI 0), .int (nI 208)]) (st := []) (rfl : mfetch 176 39 = some (39, .invokevirtual 201, 3, 152, 0, 0)) rfl rfl rfl rfl rfl ((ok_M_copies hs1).deep 2) ?_
        refine mEnds.stp 4 (pc' := 48) (l' := [some (.ref 10), some (.int x1), some (.int x2), some (.int x3), some (.int x1), some (.int (nI 0))]) (st' := []) (fun _ => rfl) ?_
        refine mEnds.cut (l := [some (.ref 10), none, some (.int x2), some (.int x3), some (.int x1), some (.int (nI 0))]) ⟨rfl, ⟨rfl, ⟨rfl, ⟨rfl, ⟨rfl, trivial⟩⟩⟩⟩⟩ ?_
        exact ok_M_drift_48 FU x1 (nI 0) s1 _ hf
def M_keep_37 (x1 : Int32) (y0 : Int32) (s : sg) : Option (Int32 × sg) :=
  (midx x1 2).bind fun j1 =>
  (some (up s 19 j1 (vp_nar .boolean (nI 1)))).bind fun s1 =>
  some (y0, s1)
set_option maxRecDepth 100000 in
theorem ok_M_keep_37 {x1 : Int32} {y0 : Int32} {s : sg} {rv : (Int32 × sg)} (hf : M_keep_37 x1 y0 s = some rv) : mEnds [] 1 177 (37, [some (.ref 10), some (.int x1), none], [.int y0], hp shM s, 0, 0) (some (.int rv.1), hp shM rv.2, 0, 0) := by
  unfold M_keep_37 at hf
  refine mEnds.stp 2 (pc' := 39) (l' := [some (.ref 10), some (.int x1), some (.int y0)]) (st' := [.ref 10]) (fun _ => rfl) ?_
  refine t_gr (rfl : mfetch 177 39 = some (39, .getfield 34, 3, 5, 24, 0)) rfl rfl ?_
  refine mEnds.stp 2 (pc' := 44) (l' := [some (.ref 10), some (.int x1), some (.int y0)]) (st' := [.int (nI 1), .int x1, .ref 19]) (fun _ => rfl) ?_
  obtain ⟨j1, hj1, hf⟩ := ob hf
  obtain ⟨s1, hs1, hf⟩ := ob hf
  refine t_zs (rfl : mfetch 177 44 = some (44, .bastore, 1, 0, 0, 0)) rfl rfl hj1 hs1 ?_
  refine mEnds.stp 1 (pc' := 46) (l' := [some (.ref 10), some (.int x1), some (.int y0)]) (st' := [.int y0]) (fun _ => rfl) ?_
  exact mEnds.rti (Option.some.inj hf) (fun _ => rfl)
def M_keep (x1 : Int32) (s : sg) : Option (Int32 × sg) :=
  (M_in x1.toInt64 (0 : Int64) (1 : Int64) s).bind fun v1 =>
  if v1 = 0 then
    some ((-1), s)
  else
    (M_copies (nI 0) ((nI 52) * (x1 + (nI 1))) s).bind fun s1 =>
    (midx x1 2).bind fun j1 =>
    if s1 19 j1 = 0 then
      M_keep_37 x1 (nI 0) s1
    else
      M_keep_37 x1 (nI 1) s1
set_option maxRecDepth 100000 in
theorem ok_M_keep {x1 : Int32} {s : sg} {rv : (Int32 × sg)} (hf : M_keep x1 s = some rv) : mEnds [] 1 177 (0, [some (.ref 10), some (.int x1), none], [], hp shM s, 0, 0) (some (.int rv.1), hp shM rv.2, 0, 0) := by
  unfold M_keep at hf
  refine mEnds.stp 4 (pc' := 4) (l' := [some (.ref 10), some (.int x1), none]) (st' := [.long (1 : Int64), .long (0 : Int64), .long x1.toInt64]) (fun _ => rfl) ?_
  obtain ⟨v1, hv1, hf⟩ := ob hf
  refine t_cs (as := [.long x1.toInt64, .long (0 : Int64), .long (1 : Int64)]) (st := []) (Or.inl rfl) (rfl : mfetch 177 4 = some (4, .invokestatic 49, 3, 111, 0, 0)) rfl rfl rfl (ok_M_in hv1) ?_
  by_cases hc1 : v1 = 0
  · rw [if_pos hc1] at hf
    refine t_jF (rfl : mfetch 177 7 = some (7, .ifCond .ne 5, 3, 0, 0, 0)) (k_ne' hc1) ?_
    refine mEnds.stp 1 (pc' := 11) (l' := [some (.ref 10), some (.int x1), none]) (st' := [.int (-1)]) (fun _ => rfl) ?_
    exact mEnds.rti (Option.some.inj hf) (fun _ => rfl)
  · rw [if_neg hc1] at hf
    refine t_jT (t := 12) (rfl : mfetch 177 7 = some (7, .ifCond .ne 5, 3, 0, 0, 0)) rfl (k_ne hc1) ?_
    refine mEnds.stp 7 (pc' := 20) (l' := [some (.ref 10), some (.int x1), none]) (st' := [.int ((nI 52) * (x1 + (nI 1))), .int (nI 0), .ref 10]) (fun _ => rfl) ?_
    obtain ⟨s1, hs1, hf⟩ := ob hf
    refine t_cv (as := [.int (nI 0), .int ((nI 52) * (x1 + (nI 1)))]) (st := []) (rfl : mfetch 177 20 = some (20, .invokevirtual 201, 3, 152, 0, 0)) rfl rfl rfl rfl rfl (ok_M_copies hs1) ?_
    refine mEnds.stp 1 (pc' := 24) (l' := [some (.ref 10), some (.int x1), none]) (st' := [.ref 10]) (fun _ => rfl) ?_
    refine t_gr (rfl : mfetch 177 24 = some (24, .getfield 34, 3, 5, 24, 0)) rfl rfl ?_
    refine mEnds.stp 1 (pc' := 28) (l' := [some (.ref 10), some (.int x1), none]) (st' := [.int x1, .ref 19]) (fun _ => rfl) ?_
    obtain ⟨j1, hj1, hf⟩ := ob hf
    refine t_ba (rfl : mfetch 177 28 = some (28, .baload, 1, 0, 0, 0)) rfl rfl rfl hj1 ?_
    by_cases hc2 : s1 19 j1 = 0
    · rw [if_pos hc2] at hf
      refine t_jT (t := 36) (rfl : mfetch 177 29 = some (29, .ifCond .eq 7, 3, 0, 0, 0)) rfl (k_eq hc2) ?_
      refine mEnds.stp 1 (pc' := 37) (l' := [some (.ref 10), some (.int x1), none]) (st' := [.int (nI 0)]) (fun _ => rfl) ?_
      refine mEnds.cut (l := [some (.ref 10), some (.int x1), none]) ⟨rfl, ⟨rfl, trivial⟩⟩ ?_
      exact ok_M_keep_37 hf
    · rw [if_neg hc2] at hf
      refine t_jF (rfl : mfetch 177 29 = some (29, .ifCond .eq 7, 3, 0, 0, 0)) (k_eq' hc2) ?_
      refine mEnds.stp 2 (pc' := 37) (l' := [some (.ref 10), some (.int x1), none]) (st' := [.int (nI 1)]) (fun _ => rfl) ?_
      refine mEnds.cut (l := [some (.ref 10), some (.int x1), none]) ⟨rfl, ⟨rfl, trivial⟩⟩ ?_
      exact ok_M_keep_37 hf
def M_back (x1 : Int32) (s : sg) : Option (Int32 × sg) :=
  (M_in x1.toInt64 (0 : Int64) (1 : Int64) s).bind fun v1 =>
  if v1 = 0 then
    some ((-1), s)
  else
    (midx x1 2).bind fun j1 =>
    if s 19 j1 = 0 then
      some ((-2), s)
    else
      (M_copies ((nI 52) * (x1 + (nI 1))) (nI 0) s).bind fun s1 =>
      (midx (nI 49) 312).bind fun j2 =>
      some (s1 11 j2, s1)
set_option maxRecDepth 100000 in
theorem ok_M_back {x1 : Int32} {s : sg} {rv : (Int32 × sg)} (hf : M_back x1 s = some rv) : mEnds [] 1 178 (0, [some (.ref 10), some (.int x1)], [], hp shM s, 0, 0) (some (.int rv.1), hp shM rv.2, 0, 0) := by
  unfold M_back at hf
  refine mEnds.stp 4 (pc' := 4) (l' := [some (.ref 10), some (.int x1)]) (st' := [.long (1 : Int64), .long (0 : Int64), .long x1.toInt64]) (fun _ => rfl) ?_
  obtain ⟨v1, hv1, hf⟩ := ob hf
  refine t_cs (as := [.long x1.toInt64, .long (0 : Int64), .long (1 : Int64)]) (st := []) (Or.inl rfl) (rfl : mfetch 178 4 = some (4, .invokestatic 49, 3, 111, 0, 0)) rfl rfl rfl (ok_M_in hv1) ?_
  by_cases hc1 : v1 = 0
  · rw [if_pos hc1] at hf
    refine t_jF (rfl : mfetch 178 7 = some (7, .ifCond .ne 5, 3, 0, 0, 0)) (k_ne' hc1) ?_
    refine mEnds.stp 1 (pc' := 11) (l' := [some (.ref 10), some (.int x1)]) (st' := [.int (-1)]) (fun _ => rfl) ?_
    exact mEnds.rti (Option.some.inj hf) (fun _ => rfl)
  · rw [if_neg hc1] at hf
    refine t_jT (t := 12) (rfl : mfetch 178 7 = some (7, .ifCond .ne 5, 3, 0, 0, 0)) rfl (k_ne hc1) ?_
    refine mEnds.stp 1 (pc' := 13) (l' := [some (.ref 10), some (.int x1)]) (st' := [.ref 10]) (fun _ => rfl) ?_
    refine t_gr (rfl : mfetch 178 13 = some (13, .getfield 34, 3, 5, 24, 0)) rfl rfl ?_
    refine mEnds.stp 1 (pc' := 17) (l' := [some (.ref 10), some (.int x1)]) (st' := [.int x1, .ref 19]) (fun _ => rfl) ?_
    obtain ⟨j1, hj1, hf⟩ := ob hf
    refine t_ba (rfl : mfetch 178 17 = some (17, .baload, 1, 0, 0, 0)) rfl rfl rfl hj1 ?_
    by_cases hc2 : s 19 j1 = 0
    · rw [if_pos hc2] at hf
      refine t_jF (rfl : mfetch 178 18 = some (18, .ifCond .ne 6, 3, 0, 0, 0)) (k_ne' hc2) ?_
      refine mEnds.stp 1 (pc' := 23) (l' := [some (.ref 10), some (.int x1)]) (st' := [.int (-2)]) (fun _ => rfl) ?_
      exact mEnds.rti (Option.some.inj hf) (fun _ => rfl)
    · rw [if_neg hc2] at hf
      refine t_jT (t := 24) (rfl : mfetch 178 18 = some (18, .ifCond .ne 6, 3, 0, 0, 0)) rfl (k_ne hc2) ?_
      refine mEnds.stp 7 (pc' := 32) (l' := [some (.ref 10), some (.int x1)]) (st' := [.int (nI 0), .int ((nI 52) * (x1 + (nI 1))), .ref 10]) (fun _ => rfl) ?_
      obtain ⟨s1, hs1, hf⟩ := ob hf
      refine t_cv (as := [.int ((nI 52) * (x1 + (nI 1))), .int (nI 0)]) (st := []) (rfl : mfetch 178 32 = some (32, .invokevirtual 201, 3, 152, 0, 0)) rfl rfl rfl rfl rfl (ok_M_copies hs1) ?_
      refine mEnds.stp 1 (pc' := 36) (l' := [some (.ref 10), some (.int x1)]) (st' := [.ref 10]) (fun _ => rfl) ?_
      refine t_gr (rfl : mfetch 178 36 = some (36, .getfield 7, 3, 5, 0, 0)) rfl rfl ?_
      refine mEnds.stp 1 (pc' := 41) (l' := [some (.ref 10), some (.int x1)]) (st' := [.int (nI 49), .ref 11]) (fun _ => rfl) ?_
      obtain ⟨j2, hj2, hf⟩ := ob hf
      refine t_ia (rfl : mfetch 178 41 = some (41, .iaload, 1, 0, 0, 0)) rfl rfl hj2 ?_
      exact mEnds.rti (Option.some.inj hf) (fun _ => rfl)
def M_sheet_56 (x1 : Int32) : Nat → Int32 → sg → Option (Int32 × sg)
  | 0, _, _ => none
  | fu + 1, x4, s =>
  if x4 < nI 40 then
    (midx (((nI 40) * x1) + x4) 160).bind fun j1 =>
    (some (up s 22 j1 (nI 0))).bind fun s1 =>
    M_sheet_56 x1 fu (x4 + (nI 1)) s1
  else
    some (nI 1, s)
set_option maxRecDepth 100000 in
theorem ok_M_sheet_56 {x1 : Int32} : ∀ (fu : Nat) (x4 : Int32) (s : sg) (rv : (Int32 × sg)), M_sheet_56 x1 fu x4 s = some rv → mEnds [] 1 179 (56, [some (.ref 10), some (.int x1), none, none, some (.int x4)], [], hp shM s, 0, 0) (some (.int rv.1), hp shM rv.2, 0, 0)
  | 0, _, _, _, hf => by cases hf
  | fu + 1, x4, s, rv, hf => by
    rw [M_sheet_56] at hf
    refine mEnds.stp 2 (pc' := 60) (l' := [some (.ref 10), some (.int x1), none, none, some (.int x4)]) (st' := [.int (nI 40), .int x4]) (fun _ => rfl) ?_
    by_cases hc1 : x4 < nI 40
    · rw [if_pos hc1] at hf
      refine t_cF (rfl : mfetch 179 60 = some (60, .if_icmp .ge 22, 3, 0, 0, 0)) (k_ge' hc1) ?_
      refine mEnds.stp 1 (pc' := 64) (l' := [some (.ref 10), some (.int x1), none, none, some (.int x4)]) (st' := [.ref 10]) (fun _ => rfl) ?_
      refine t_gr (rfl : mfetch 179 64 = some (64, .getfield 44, 3, 5, 27, 0)) rfl rfl ?_
      refine mEnds.stp 6 (pc' := 75) (l' := [some (.ref 10), some (.int x1), none, none, some (.int x4)]) (st' := [.int (nI 0), .int (((nI 40) * x1) + x4), .ref 22]) (fun _ => rfl) ?_
      obtain ⟨j1, hj1, hf⟩ := ob hf
      obtain ⟨s1, hs1, hf⟩ := ob hf
      refine t_is (rfl : mfetch 179 75 = some (75, .iastore, 1, 0, 0, 0)) rfl rfl hj1 hs1 ?_
      refine mEnds.stp 2 (pc' := 56) (l' := [some (.ref 10), some (.int x1), none, none, some (.int (x4 + (nI 1)))]) (st' := []) (fun _ => rfl) ?_
      refine mEnds.cut (l := [some (.ref 10), some (.int x1), none, none, some (.int (x4 + (nI 1)))]) ⟨rfl, ⟨rfl, ⟨rfl, trivial⟩⟩⟩ ?_
      exact ok_M_sheet_56 fu (x4 + (nI 1)) s1 _ hf
    · rw [if_neg hc1] at hf
      refine t_cT (t := 82) (rfl : mfetch 179 60 = some (60, .if_icmp .ge 22, 3, 0, 0, 0)) rfl (k_ge hc1) ?_
      refine mEnds.stp 1 (pc' := 83) (l' := [some (.ref 10), some (.int x1), none, none, some (.int x4)]) (st' := [.int (nI 1)]) (fun _ => rfl) ?_
      exact mEnds.rti (Option.some.inj hf) (fun _ => rfl)
def M_sheet (x1 : Int32) (x2 : Int32) (x3 : Int32) (s : sg) : Option (Int32 × sg) :=
  (M_in x1.toInt64 (0 : Int64) (3 : Int64) s).bind fun v1 =>
  if v1 = 0 then
    some ((-1), s)
  else
    (M_in x2.toInt64 (0 : Int64) (2 : Int64) s).bind fun v2 =>
    if v2 = 0 then
      some ((-1), s)
    else
      if nI 40 < x3 then
        some ((-1), s)
      else
        if x3 < 0 then
          some ((-14), s)
        else
          (midx x1 4).bind fun j1 =>
          (some (up s 20 j1 x2)).bind fun s1 =>
          (midx x1 4).bind fun j2 =>
          (some (up s1 21 j2 x3)).bind fun s2 =>
          M_sheet_56 x1 FU (nI 0) s2
set_option maxRecDepth 100000 in
theorem ok_M_sheet {x1 : Int32} {x2 : Int32} {x3 : Int32} {s : sg} {rv : (Int32 × sg)} (hf : M_sheet x1 x2 x3 s = some rv) : mEnds [] 1 179 (0, [some (.ref 10), some (.int x1), some (.int x2), some (.int x3), none], [], hp shM s, 0, 0) (some (.int rv.1), hp shM rv.2, 0, 0) := by
  unfold M_sheet at hf
  refine mEnds.stp 4 (pc' := 6) (l' := [some (.ref 10), some (.int x1), some (.int x2), some (.int x3), none]) (st' := [.long (3 : Int64), .long (0 : Int64), .long x1.toInt64]) (fun _ => rfl) ?_
  obtain ⟨v1, hv1, hf⟩ := ob hf
  refine t_cs (as := [.long x1.toInt64, .long (0 : Int64), .long (3 : Int64)]) (st := []) (Or.inl rfl) (rfl : mfetch 179 6 = some (6, .invokestatic 49, 3, 111, 0, 0)) rfl rfl rfl (ok_M_in hv1) ?_
  by_cases hc1 : v1 = 0
  · rw [if_pos hc1] at hf
    refine t_jT (t := 30) (rfl : mfetch 179 9 = some (9, .ifCond .eq 21, 3, 0, 0, 0)) rfl (k_eq hc1) ?_
    refine mEnds.stp 1 (pc' := 31) (l' := [some (.ref 10), some (.int x1), some (.int x2), some (.int x3), none]) (st' := [.int (-1)]) (fun _ => rfl) ?_
    exact mEnds.rti (Option.some.inj hf) (fun _ => rfl)
  · rw [if_neg hc1] at hf
    refine t_jF (rfl : mfetch 179 9 = some (9, .ifCond .eq 21, 3, 0, 0, 0)) (k_eq' hc1) ?_
    refine mEnds.stp 4 (pc' := 18) (l' := [some (.ref 10), some (.int x1), some (.int x2), some (.int x3), none]) (st' := [.long (2 : Int64), .long (0 : Int64), .long x2.toInt64]) (fun _ => rfl) ?_
    obtain ⟨v2, hv2, hf⟩ := ob hf
    refine t_cs (as := [.long x2.toInt64, .long (0 : Int64), .long (2 : Int64)]) (st := []) (Or.inl rfl) (rfl : mfetch 179 18 = some (18, .invokestatic 49, 3, 111, 0, 0)) rfl rfl rfl (ok_M_in hv2) ?_
    by_cases hc2 : v2 = 0
    · rw [if_pos hc2] at hf
      refine t_jT (t := 30) (rfl : mfetch 179 21 = some (21, .ifCond .eq 9, 3, 0, 0, 0)) rfl (k_eq hc2) ?_
      refine mEnds.stp 1 (pc' := 31) (l' := [some (.ref 10), some (.int x1), some (.int x2), some (.int x3), none]) (st' := [.int (-1)]) (fun _ => rfl) ?_
      exact mEnds.rti (Option.some.inj hf) (fun _ => rfl)
    · rw [if_neg hc2] at hf
      refine t_jF (rfl : mfetch 179 21 = some (21, .ifCond .eq 9, 3, 0, 0, 0)) (k_eq' hc2) ?_
      refine mEnds.stp 2 (pc' := 27) (l' := [some (.ref 10), some (.int x1), some (.int x2), some (.int x3), none]) (st' := [.int (nI 40), .int x3]) (fun _ => rfl) ?_
      by_cases hc3 : nI 40 < x3
      · rw [if_pos hc3] at hf
        refine t_cF (rfl : mfetch 179 27 = some (27, .if_icmp .le 5, 3, 0, 0, 0)) (k_le' hc3) ?_
        refine mEnds.stp 1 (pc' := 31) (l' := [some (.ref 10), some (.int x1), some (.int x2), some (.int x3), none]) (st' := [.int (-1)]) (fun _ => rfl) ?_
        exact mEnds.rti (Option.some.inj hf) (fun _ => rfl)
      · rw [if_neg hc3] at hf
        refine t_cT (t := 32) (rfl : mfetch 179 27 = some (27, .if_icmp .le 5, 3, 0, 0, 0)) rfl (k_le hc3) ?_
        refine mEnds.stp 1 (pc' := 33) (l' := [some (.ref 10), some (.int x1), some (.int x2), some (.int x3), none]) (st' := [.int x3]) (fun _ => rfl) ?_
        by_cases hc4 : x3 < 0
        · rw [if_pos hc4] at hf
          refine t_jF (rfl : mfetch 179 33 = some (33, .ifCond .ge 6, 3, 0, 0, 0)) (k_ge' hc4) ?_
          refine mEnds.stp 1 (pc' := 38) (l' := [some (.ref 10), some (.int x1), some (.int x2), some (.int x3), none]) (st' := [.int (-14)]) (fun _ => rfl) ?_
          exact mEnds.rti (Option.some.inj hf) (fun _ => rfl)
        · rw [if_neg hc4] at hf
          refine t_jT (t := 39) (rfl : mfetch 179 33 = some (33, .ifCond .ge 6, 3, 0, 0, 0)) rfl (k_ge hc4) ?_
          refine mEnds.stp 1 (pc' := 40) (l' := [some (.ref 10), some (.int x1), some (.int x2), some (.int x3), none]) (st' := [.ref 10]) (fun _ => rfl) ?_
          refine t_gr (rfl : mfetch 179 40 = some (40, .getfield 38, 3, 5, 25, 0)) rfl rfl ?_
          refine mEnds.stp 2 (pc' := 45) (l' := [some (.ref 10), some (.int x1), some (.int x2), some (.int x3), none]) (st' := [.int x2, .int x1, .ref 20]) (fun _ => rfl) ?_
          obtain ⟨j1, hj1, hf⟩ := ob hf
          obtain ⟨s1, hs1, hf⟩ := ob hf
          refine t_is (rfl : mfetch 179 45 = some (45, .iastore, 1, 0, 0, 0)) rfl rfl hj1 hs1 ?_
          refine mEnds.stp 1 (pc' := 47) (l' := [some (.ref 10), some (.int x1), some (.int x2), some (.int x3), none]) (st' := [.ref 10]) (fun _ => rfl) ?_
          refine t_gr (rfl : mfetch 179 47 = some (47, .getfield 41, 3, 5, 26, 0)) rfl rfl ?_
          refine mEnds.stp 2 (pc' := 52) (l' := [some (.ref 10), some (.int x1), some (.int x2), some (.int x3), none]) (st' := [.int x3, .int x1, .ref 21]) (fun _ => rfl) ?_
          obtain ⟨j2, hj2, hf⟩ := ob hf
          obtain ⟨s2, hs2, hf⟩ := ob hf
          refine t_is (rfl : mfetch 179 52 = some (52, .iastore, 1, 0, 0, 0)) rfl rfl hj2 hs2 ?_
          refine mEnds.stp 2 (pc' := 56) (l' := [some (.ref 10), some (.int x1), some (.int x2), some (.int x3), some (.int (nI 0))]) (st' := []) (fun _ => rfl) ?_
          refine mEnds.cut (l := [some (.ref 10), some (.int x1), none, none, some (.int (nI 0))]) ⟨rfl, ⟨rfl, ⟨rfl, trivial⟩⟩⟩ ?_
          exact ok_M_sheet_56 FU (nI 0) s2 _ hf
