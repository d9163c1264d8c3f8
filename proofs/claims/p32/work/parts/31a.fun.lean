def M_in (x0 : Int64) (x2 : Int64) (x4 : Int64) (s : sg) : Option Int32 :=
  if x0 < x2 then
    some (nI 0)
  else
    if x4 < x0 then
      some (nI 0)
    else
      some (nI 1)
set_option maxRecDepth 100000 in
theorem ok_M_in {x0 : Int64} {x2 : Int64} {x4 : Int64} {s : sg} {rv : Int32} (hf : M_in x0 x2 x4 s = some rv) : mEnds [] 0 111 (0, [some (.long x0), none, some (.long x2), none, some (.long x4), none], [], hp shM s, 0, 0) (some (.int rv), hp shM s, 0, 0) := by
  unfold M_in at hf
  refine mEnds.stp 2 (pc' := 2) (l' := [some (.long x0), none, some (.long x2), none, some (.long x4), none]) (st' := [.long x2, .long x0]) (fun _ => rfl) ?_
  refine mEnds.stp 1 (pc' := 3) (l' := [some (.long x0), none, some (.long x2), none, some (.long x4), none]) (st' := [.int (lg_cmp x0 x2)]) (fun _ => rfl) ?_
  by_cases hc1 : x0 < x2
  · rw [if_pos hc1] at hf
    refine t_jT (t := 17) (rfl : mfetch 111 3 = some (3, .ifCond .lt 14, 3, 0, 0, 0)) rfl (l_lt hc1) ?_
    refine mEnds.stp 1 (pc' := 18) (l' := [some (.long x0), none, some (.long x2), none, some (.long x4), none]) (st' := [.int (nI 0)]) (fun _ => rfl) ?_
    cases hf; exact mEnds.rt (fun _ => rfl)
  · rw [if_neg hc1] at hf
    refine t_jF (rfl : mfetch 111 3 = some (3, .ifCond .lt 14, 3, 0, 0, 0)) (l_lt' hc1) ?_
    refine mEnds.stp 2 (pc' := 9) (l' := [some (.long x0), none, some (.long x2), none, some (.long x4), none]) (st' := [.long x4, .long x0]) (fun _ => rfl) ?_
    refine mEnds.stp 1 (pc' := 10) (l' := [some (.long x0), none, some (.long x2), none, some (.long x4), none]) (st' := [.int (lg_cmp x0 x4)]) (fun _ => rfl) ?_
    by_cases hc2 : x4 < x0
    · rw [if_pos hc2] at hf
      refine t_jT (t := 17) (rfl : mfetch 111 10 = some (10, .ifCond .gt 7, 3, 0, 0, 0)) rfl (l_gt hc2) ?_
      refine mEnds.stp 1 (pc' := 18) (l' := [some (.long x0), none, some (.long x2), none, some (.long x4), none]) (st' := [.int (nI 0)]) (fun _ => rfl) ?_
      cases hf; exact mEnds.rt (fun _ => rfl)
    · rw [if_neg hc2] at hf
      refine t_jF (rfl : mfetch 111 10 = some (10, .ifCond .gt 7, 3, 0, 0, 0)) (l_gt' hc2) ?_
      refine mEnds.stp 2 (pc' := 18) (l' := [some (.long x0), none, some (.long x2), none, some (.long x4), none]) (st' := [.int (nI 1)]) (fun _ => rfl) ?_
      cases hf; exact mEnds.rt (fun _ => rfl)
def M_feed (x1 : Int32) (s : sg) : Option (Int32 × sg) :=
  (M_in x1.toInt64 (0 : Int64) (127 : Int64) s).bind fun v1 =>
  if v1 = 0 then
    some ((-1), s)
  else
    if s 10 8 = nI 160 then
      some ((-3), s)
    else
      (midx (s 10 8) 160).bind fun j1 =>
      (some (up s 13 j1 x1)).bind fun s1 =>
      (some (up s1 10 8 ((s1 10 8) + (nI 1)))).bind fun s2 =>
      some (s2 10 8, s2)
set_option maxRecDepth 100000 in
theorem ok_M_feed {x1 : Int32} {s : sg} {rv : (Int32 × sg)} (hf : M_feed x1 s = some rv) : mEnds [] 1 112 (0, [some (.ref 10), some (.int x1)], [], hp shM s, 0, 0) (some (.int rv.1), hp shM rv.2, 0, 0) := by
  unfold M_feed at hf
  refine mEnds.stp 4 (pc' := 6) (l' := [some (.ref 10), some (.int x1)]) (st' := [.long (127 : Int64), .long (0 : Int64), .long x1.toInt64]) (fun _ => rfl) ?_
  obtain ⟨v1, hv1, hf⟩ := ob hf
  refine t_cs (as := [.long x1.toInt64, .long (0 : Int64), .long (127 : Int64)]) (st := []) (Or.inl rfl) (rfl : mfetch 112 6 = some (6, .invokestatic 49, 3, 111, 0, 0)) rfl rfl rfl (ok_M_in hv1) ?_
  by_cases hc1 : v1 = 0
  · rw [if_pos hc1] at hf
    refine t_jF (rfl : mfetch 112 9 = some (9, .ifCond .ne 5, 3, 0, 0, 0)) (k_ne' hc1) ?_
    refine mEnds.stp 1 (pc' := 13) (l' := [some (.ref 10), some (.int x1)]) (st' := [.int (-1)]) (fun _ => rfl) ?_
    exact mEnds.rti (Option.some.inj hf) (fun _ => rfl)
  · rw [if_neg hc1] at hf
    refine t_jT (t := 14) (rfl : mfetch 112 9 = some (9, .ifCond .ne 5, 3, 0, 0, 0)) rfl (k_ne hc1) ?_
    refine mEnds.stp 1 (pc' := 15) (l' := [some (.ref 10), some (.int x1)]) (st' := [.ref 10]) (fun _ => rfl) ?_
    refine t_gi (rfl : mfetch 112 15 = some (15, .getfield 53, 3, 5, 8, 0)) rfl rfl ?_
    refine mEnds.stp 1 (pc' := 21) (l' := [some (.ref 10), some (.int x1)]) (st' := [.int (nI 160), .int (s 10 8)]) (fun _ => rfl) ?_
    by_cases hc2 : s 10 8 = nI 160
    · rw [if_pos hc2] at hf
      refine t_cF (rfl : mfetch 112 21 = some (21, .if_icmp .ne 6, 3, 0, 0, 0)) (k_ne' hc2) ?_
      refine mEnds.stp 1 (pc' := 26) (l' := [some (.ref 10), some (.int x1)]) (st' := [.int (-3)]) (fun _ => rfl) ?_
      exact mEnds.rti (Option.some.inj hf) (fun _ => rfl)
    · rw [if_neg hc2] at hf
      refine t_cT (t := 27) (rfl : mfetch 112 21 = some (21, .if_icmp .ne 6, 3, 0, 0, 0)) rfl (k_ne hc2) ?_
      refine mEnds.stp 1 (pc' := 28) (l' := [some (.ref 10), some (.int x1)]) (st' := [.ref 10]) (fun _ => rfl) ?_
      refine t_gr (rfl : mfetch 112 28 = some (28, .getfield 16, 3, 5, 7, 0)) rfl rfl ?_
      refine mEnds.stp 1 (pc' := 32) (l' := [some (.ref 10), some (.int x1)]) (st' := [.ref 10, .ref 13]) (fun _ => rfl) ?_
      refine t_gi (rfl : mfetch 112 32 = some (32, .getfield 53, 3, 5, 8, 0)) rfl rfl ?_
      refine mEnds.stp 1 (pc' := 36) (l' := [some (.ref 10), some (.int x1)]) (st' := [.int x1, .int (s 10 8), .ref 13]) (fun _ => rfl) ?_
      obtain ⟨j1, hj1, hf⟩ := ob hf
      obtain ⟨s1, hs1, hf⟩ := ob hf
      refine t_is (rfl : mfetch 112 36 = some (36, .iastore, 1, 0, 0, 0)) rfl rfl hj1 hs1 ?_
      refine mEnds.stp 2 (pc' := 39) (l' := [some (.ref 10), some (.int x1)]) (st' := [.ref 10, .ref 10]) (fun _ => rfl) ?_
      refine t_gi (rfl : mfetch 112 39 = some (39, .getfield 53, 3, 5, 8, 0)) rfl rfl ?_
      refine mEnds.stp 2 (pc' := 44) (l' := [some (.ref 10), some (.int x1)]) (st' := [.int ((s1 10 8) + (nI 1)), .ref 10]) (fun _ => rfl) ?_
      obtain ⟨s2, hs2, hf⟩ := ob hf
      refine t_pi (rfl : mfetch 112 44 = some (44, .putfield 53, 3, 5, 8, 0)) rfl rfl rfl rfl hs2 ?_
      refine mEnds.stp 1 (pc' := 48) (l' := [some (.ref 10), some (.int x1)]) (st' := [.ref 10]) (fun _ => rfl) ?_
      refine t_gi (rfl : mfetch 112 48 = some (48, .getfield 53, 3, 5, 8, 0)) rfl rfl ?_
      exact mEnds.rti (Option.some.inj hf) (fun _ => rfl)
def M_end (x1 : Int32) (s : sg) : Option (Int32 × sg) :=
  (M_in x1.toInt64 (0 : Int64) ((s 10 8).toInt64) s).bind fun v1 =>
  if v1 = 0 then
    some ((-1), s)
  else
    (some (up s 10 8 x1)).bind fun s1 =>
    some (s 10 8, s1)
set_option maxRecDepth 100000 in
theorem ok_M_end {x1 : Int32} {s : sg} {rv : (Int32 × sg)} (hf : M_end x1 s = some rv) : mEnds [] 1 113 (0, [some (.ref 10), some (.int x1), none], [], hp shM s, 0, 0) (some (.int rv.1), hp shM rv.2, 0, 0) := by
  unfold M_end at hf
  refine mEnds.stp 4 (pc' := 4) (l' := [some (.ref 10), some (.int x1), none]) (st' := [.ref 10, .long (0 : Int64), .long x1.toInt64]) (fun _ => rfl) ?_
  refine t_gi (rfl : mfetch 113 4 = some (4, .getfield 53, 3, 5, 8, 0)) rfl rfl ?_
  refine mEnds.stp 1 (pc' := 8) (l' := [some (.ref 10), some (.int x1), none]) (st' := [.long ((s 10 8).toInt64), .long (0 : Int64), .long x1.toInt64]) (fun _ => rfl) ?_
  obtain ⟨v1, hv1, hf⟩ := ob hf
  refine t_cs (as := [.long x1.toInt64, .long (0 : Int64), .long ((s 10 8).toInt64)]) (st := []) (Or.inl rfl) (rfl : mfetch 113 8 = some (8, .invokestatic 49, 3, 111, 0, 0)) rfl rfl rfl (ok_M_in hv1) ?_
  by_cases hc1 : v1 = 0
  · rw [if_pos hc1] at hf
    refine t_jF (rfl : mfetch 113 11 = some (11, .ifCond .ne 5, 3, 0, 0, 0)) (k_ne' hc1) ?_
    refine mEnds.stp 1 (pc' := 15) (l' := [some (.ref 10), some (.int x1), none]) (st' := [.int (-1)]) (fun _ => rfl) ?_
    exact mEnds.rti (Option.some.inj hf) (fun _ => rfl)
  · rw [if_neg hc1] at hf
    refine t_jT (t := 16) (rfl : mfetch 113 11 = some (11, .ifCond .ne 5, 3, 0, 0, 0)) rfl (k_ne hc1) ?_
    refine mEnds.stp 1 (pc' := 17) (l' := [some (.ref 10), some (.int x1), none]) (st' := [.ref 10]) (fun _ => rfl) ?_
    refine t_gi (rfl : mfetch 113 17 = some (17, .getfield 53, 3, 5, 8, 0)) rfl rfl ?_
    refine mEnds.stp 3 (pc' := 23) (l' := [some (.ref 10), some (.int x1), some (.int (s 10 8))]) (st' := [.int x1, .ref 10]) (fun _ => rfl) ?_
    obtain ⟨s1, hs1, hf⟩ := ob hf
    refine t_pi (rfl : mfetch 113 23 = some (23, .putfield 53, 3, 5, 8, 0)) rfl rfl rfl rfl hs1 ?_
    refine mEnds.stp 1 (pc' := 27) (l' := [some (.ref 10), some (.int x1), some (.int (s 10 8))]) (st' := [.int (s 10 8)]) (fun _ => rfl) ?_
    exact mEnds.rti (Option.some.inj hf) (fun _ => rfl)
def M_byteAt (x1 : Int32) (s : sg) : Option Int32 :=
  if x1 < s 10 8 then
    (midx x1 160).bind fun j1 =>
    some (s 13 j1)
  else
    some (-4)
set_option maxRecDepth 100000 in
theorem ok_M_byteAt {x1 : Int32} {s : sg} {rv : Int32} (hf : M_byteAt x1 s = some rv) : mEnds [] 0 114 (0, [some (.ref 10), some (.int x1)], [], hp shM s, 0, 0) (some (.int rv), hp shM s, 0, 0) := by
  unfold M_byteAt at hf
  refine mEnds.stp 2 (pc' := 2) (l' := [some (.ref 10), some (.int x1)]) (st' := [.ref 10, .int x1]) (fun _ => rfl) ?_
  refine t_gi (rfl : mfetch 114 2 = some (2, .getfield 53, 3, 5, 8, 0)) rfl rfl ?_
  by_cases hc1 : x1 < s 10 8
  · rw [if_pos hc1] at hf
    refine t_cF (rfl : mfetch 114 5 = some (5, .if_icmp .ge 12, 3, 0, 0, 0)) (k_ge' hc1) ?_
    refine mEnds.stp 1 (pc' := 9) (l' := [some (.ref 10), some (.int x1)]) (st' := [.ref 10]) (fun _ => rfl) ?_
    refine t_gr (rfl : mfetch 114 9 = some (9, .getfield 16, 3, 5, 7, 0)) rfl rfl ?_
    refine mEnds.stp 1 (pc' := 13) (l' := [some (.ref 10), some (.int x1)]) (st' := [.int x1, .ref 13]) (fun _ => rfl) ?_
    obtain ⟨j1, hj1, hf⟩ := ob hf
    refine t_ia (rfl : mfetch 114 13 = some (13, .iaload, 1, 0, 0, 0)) rfl rfl hj1 ?_
    refine mEnds.stp 1 (pc' := 19) (l' := [some (.ref 10), some (.int x1)]) (st' := [.int (s 13 j1)]) (fun _ => rfl) ?_
    cases hf; exact mEnds.rt (fun _ => rfl)
  · rw [if_neg hc1] at hf
    refine t_cT (t := 17) (rfl : mfetch 114 5 = some (5, .if_icmp .ge 12, 3, 0, 0, 0)) rfl (k_ge hc1) ?_
    refine mEnds.stp 1 (pc' := 19) (l' := [some (.ref 10), some (.int x1)]) (st' := [.int (-4)]) (fun _ => rfl) ?_
    cases hf; exact mEnds.rt (fun _ => rfl)
def M_fails (x1 : Int32) (s : sg) : Option sg :=
  if s 10 10 = 0 then
    (some (up s 10 10 x1)).bind fun s1 =>
    (some (up s1 10 11 (s1 10 13))).bind fun s2 =>
    some s2
  else
    some s
set_option maxRecDepth 100000 in
theorem ok_M_fails {x1 : Int32} {s : sg} {rv : sg} (hf : M_fails x1 s = some rv) : mEnds [] 0 115 (0, [some (.ref 10), some (.int x1)], [], hp shM s, 0, 0) (none, hp shM rv, 0, 0) := by
  unfold M_fails at hf
  refine mEnds.stp 1 (pc' := 1) (l' := [some (.ref 10), some (.int x1)]) (st' := [.ref 10]) (fun _ => rfl) ?_
  refine t_gi (rfl : mfetch 115 1 = some (1, .getfield 57, 3, 5, 10, 0)) rfl rfl ?_
  by_cases hc1 : s 10 10 = 0
  · rw [if_pos hc1] at hf
    refine t_jF (rfl : mfetch 115 4 = some (4, .ifCond .ne 16, 3, 0, 0, 0)) (k_ne' hc1) ?_
    refine mEnds.stp 2 (pc' := 9) (l' := [some (.ref 10), some (.int x1)]) (st' := [.int x1, .ref 10]) (fun _ => rfl) ?_
    obtain ⟨s1, hs1, hf⟩ := ob hf
    refine t_pi (rfl : mfetch 115 9 = some (9, .putfield 57, 3, 5, 10, 0)) rfl rfl rfl rfl hs1 ?_
    refine mEnds.stp 2 (pc' := 14) (l' := [some (.ref 10), some (.int x1)]) (st' := [.ref 10, .ref 10]) (fun _ => rfl) ?_
    refine t_gi (rfl : mfetch 115 14 = some (14, .getfield 60, 3, 5, 13, 0)) rfl rfl ?_
    obtain ⟨s2, hs2, hf⟩ := ob hf
    refine t_pi (rfl : mfetch 115 17 = some (17, .putfield 63, 3, 5, 11, 0)) rfl rfl rfl rfl hs2 ?_
    cases hf; exact mEnds.rt (fun _ => rfl)
  · rw [if_neg hc1] at hf
    refine t_jT (t := 20) (rfl : mfetch 115 4 = some (4, .ifCond .ne 16, 3, 0, 0, 0)) rfl (k_ne hc1) ?_
    cases hf; exact mEnds.rt (fun _ => rfl)
def M_nameHere_106 (k2 : Int32 → Option Int32) (x1 : Int32) (x2 : Int32) (s : sg) : Option Int32 :=
  if x2 = 0 then
    k2 (x1 + (nI 1))
  else
    some x1
set_option maxRecDepth 100000 in
theorem ok_M_nameHere_106 {k2 : Int32 → Option Int32} {x1 : Int32} {x2 : Int32} {s : sg} {rv : Int32} (hk2 : ∀ (x1 : Int32) (rv : Int32), k2 x1 = some rv → mEnds [] 1 116 (2, [some (.ref 10), some (.int x1), none, none], [], hp shM s, 0, 0) (some (.int rv), hp shM s, 0, 0)) (hf : M_nameHere_106 k2 x1 x2 s = some rv) : mEnds [] 1 116 (106, [some (.ref 10), some (.int x1), some (.int x2), none], [], hp shM s, 0, 0) (some (.int rv), hp shM s, 0, 0) := by
  unfold M_nameHere_106 at hf
  refine mEnds.stp 1 (pc' := 107) (l' := [some (.ref 10), some (.int x1), some (.int x2), none]) (st' := [.int x2]) (fun _ => rfl) ?_
  by_cases hc1 : x2 = 0
  · rw [if_pos hc1] at hf
    refine t_jT (t := 112) (rfl : mfetch 116 107 = some (107, .ifCond .eq 5, 3, 0, 0, 0)) rfl (k_eq hc1) ?_
    refine mEnds.stp 2 (pc' := 2) (l' := [some (.ref 10), some (.int (x1 + (nI 1))), some (.int x2), none]) (st' := []) (fun _ => rfl) ?_
    refine mEnds.cut (l := [some (.ref 10), some (.int (x1 + (nI 1))), none, none]) ⟨rfl, ⟨rfl, trivial⟩⟩ ?_
    exact hk2 (x1 + (nI 1)) _ hf
  · rw [if_neg hc1] at hf
    refine t_jF (rfl : mfetch 116 107 = some (107, .ifCond .eq 5, 3, 0, 0, 0)) (k_eq' hc1) ?_
    refine mEnds.stp 1 (pc' := 111) (l' := [some (.ref 10), some (.int x1), some (.int x2), none]) (st' := [.int x1]) (fun _ => rfl) ?_
    cases hf; exact mEnds.rt (fun _ => rfl)
def M_nameHere_51 (k2 : Int32 → Option Int32) (x1 : Int32) (s : sg) : Nat → Int32 → Int32 → Option Int32
  | 0, _, _ => none
  | fu + 1, x2, x3 =>
  if x2 = 0 then
    M_nameHere_106 k2 x1 x2 s
  else
    if x3 < (s 10 12) - (s 10 13) then
      (M_byteAt ((s 10 13) + x3) s).bind fun v1 =>
      (midx x1 8).bind fun j1 =>
      (midx ((s 14 j1) + x3) 29).bind fun j2 =>
      if v1 = s 15 j2 then
        M_nameHere_51 k2 x1 s fu (nI 1) (x3 + (nI 1))
      else
        M_nameHere_51 k2 x1 s fu (nI 0) (x3 + (nI 1))
    else
      M_nameHere_106 k2 x1 x2 s
set_option maxRecDepth 100000 in
theorem ok_M_nameHere_51 {k2 : Int32 → Option Int32} {x1 : Int32} {s : sg} (hk2 : ∀ (x1 : Int32) (rv : Int32), k2 x1 = some rv → mEnds [] 1 116 (2, [some (.ref 10), some (.int x1), none, none], [], hp shM s, 0, 0) (some (.int rv), hp shM s, 0, 0)) : ∀ (fu : Nat) (x2 : Int32) (x3 : Int32) (rv : Int32), M_nameHere_51 k2 x1 s fu x2 x3 = some rv → mEnds [] 1 116 (51, [some (.ref 10), some (.int x1), some (.int x2), some (.int x3)], [], hp shM s, 0, 0) (some (.int rv), hp shM s, 0, 0)
  | 0, _, _, _, hf => by cases hf
  | fu + 1, x2, x3, rv, hf => by
    rw [M_nameHere_51] at hf
    refine mEnds.stp 1 (pc' := 52) (l' := [some (.ref 10), some (.int x1), some (.int x2), some (.int x3)]) (st' := [.int x2]) (fun _ => rfl) ?_
    by_cases hc1 : x2 = 0
    · rw [if_pos hc1] at hf
      refine t_jT (t := 106) (rfl : mfetch 116 52 = some (52, .ifCond .eq 54, 3, 0, 0, 0)) rfl (k_eq hc1) ?_
      refine mEnds.cut (l := [some (.ref 10), some (.int x1), some (.int x2), none]) ⟨rfl, ⟨rfl, ⟨rfl, trivial⟩⟩⟩ ?_
      exact ok_M_nameHere_106 hk2 hf
    · rw [if_neg hc1] at hf
      refine t_jF (rfl : mfetch 116 52 = some (52, .ifCond .eq 54, 3, 0, 0, 0)) (k_eq' hc1) ?_
      refine mEnds.stp 2 (pc' := 57) (l' := [some (.ref 10), some (.int x1), some (.int x2), some (.int x3)]) (st' := [.ref 10, .int x3]) (fun _ => rfl) ?_
      refine t_gi (rfl : mfetch 116 57 = some (57, .getfield 69, 3, 5, 12, 0)) rfl rfl ?_
      refine mEnds.stp 1 (pc' := 61) (l' := [some (.ref 10), some (.int x1), some (.int x2), some (.int x3)]) (st' := [.ref 10, .int (s 10 12), .int x3]) (fun _ => rfl) ?_
      refine t_gi (rfl : mfetch 116 61 = some (61, .getfield 60, 3, 5, 13, 0)) rfl rfl ?_
      refine mEnds.stp 1 (pc' := 65) (l' := [some (.ref 10), some (.int x1), some (.int x2), some (.int x3)]) (st' := [.int ((s 10 12) - (s 10 13)), .int x3]) (fun _ => rfl) ?_
      by_cases hc2 : x3 < (s 10 12) - (s 10 13)
      · rw [if_pos hc2] at hf
        refine t_cF (rfl : mfetch 116 65 = some (65, .if_icmp .ge 41, 3, 0, 0, 0)) (k_ge' hc2) ?_
        refine mEnds.stp 2 (pc' := 70) (l' := [some (.ref 10), some (.int x1), some (.int x2), some (.int x3)]) (st' := [.ref 10, .ref 10]) (fun _ => rfl) ?_
        refine t_gi (rfl : mfetch 116 70 = some (70, .getfield 60, 3, 5, 13, 0)) rfl rfl ?_
        refine mEnds.stp 2 (pc' := 75) (l' := [some (.ref 10), some (.int x1), some (.int x2), some (.int x3)]) (st' := [.int ((s 10 13) + x3), .ref 10]) (fun _ => rfl) ?_
        obtain ⟨v1, hv1, hf⟩ := ob hf
        refine t_cv (as := [.int ((s 10 13) + x3)]) (st := []) (rfl : mfetch 116 75 = some (75, .invokevirtual 72, 3, 114, 0, 0)) rfl rfl rfl rfl rfl (ok_M_byteAt hv1) ?_
        refine mEnds.stp 1 (pc' := 79) (l' := [some (.ref 10), some (.int x1), some (.int x2), some (.int x3)]) (st' := [.ref 10, .int v1]) (fun _ => rfl) ?_
        refine t_gr (rfl : mfetch 116 79 = some (79, .getfield 22, 3, 5, 17, 0)) rfl rfl ?_
        refine mEnds.stp 1 (pc' := 83) (l' := [some (.ref 10), some (.int x1), some (.int x2), some (.int x3)]) (st' := [.ref 10, .ref 15, .int v1]) (fun _ => rfl) ?_
        refine t_gr (rfl : mfetch 116 83 = some (83, .getfield 19, 3, 5, 16, 0)) rfl rfl ?_
        refine mEnds.stp 1 (pc' := 87) (l' := [some (.ref 10), some (.int x1), some (.int x2), some (.int x3)]) (st' := [.int x1, .ref 14, .ref 15, .int v1]) (fun _ => rfl) ?_
        obtain ⟨j1, hj1, hf⟩ := ob hf
        refine t_ia (rfl : mfetch 116 87 = some (87, .iaload, 1, 0, 0, 0)) rfl rfl hj1 ?_
        refine mEnds.stp 2 (pc' := 90) (l' := [some (.ref 10), some (.int x1), some (.int x2), some (.int x3)]) (st' := [.int ((s 14 j1) + x3), .ref 15, .int v1]) (fun _ => rfl) ?_
        obtain ⟨j2, hj2, hf⟩ := ob hf
        refine t_ia (rfl : mfetch 116 90 = some (90, .iaload, 1, 0, 0, 0)) rfl rfl hj2 ?_
        by_cases hc3 : v1 = s 15 j2
        · rw [if_pos hc3] at hf
          refine t_cF (rfl : mfetch 116 91 = some (91, .if_icmp .ne 7, 3, 0, 0, 0)) (k_ne' hc3) ?_
          refine mEnds.stp 5 (pc' := 51) (l' := [some (.ref 10), some (.int x1), some (.int (nI 1)), some (.int (x3 + (nI 1)))]) (st' := []) (fun _ => rfl) ?_
          refine mEnds.cut (l := [some (.ref 10), some (.int x1), some (.int (nI 1)), some (.int (x3 + (nI 1)))]) ⟨rfl, ⟨rfl, ⟨rfl, ⟨rfl, trivial⟩⟩⟩⟩ ?_
          exact ok_M_nameHere_51 hk2 fu (nI 1) (x3 + (nI 1)) _ hf
        · rw [if_neg hc3] at hf
          refine t_cT (t := 98) (rfl : mfetch 116 91 = some (91, .if_icmp .ne 7, 3, 0, 0, 0)) rfl (k_ne hc3) ?_
          refine mEnds.stp 4 (pc' := 51) (l' := [some (.ref 10), some (.int x1), some (.int (nI 0)), some (.int (x3 + (nI 1)))]) (st' := []) (fun _ => rfl) ?_
          refine mEnds.cut (l := [some (.ref 10), some (.int x1), some (.int (nI 0)), some (.int (x3 + (nI 1)))]) ⟨rfl, ⟨rfl, ⟨rfl, ⟨rfl, trivial⟩⟩⟩⟩ ?_
          exact ok_M_nameHere_51 hk2 fu (nI 0) (x3 + (nI 1)) _ hf
      · rw [if_neg hc2] at hf
        refine t_cT (t := 106) (rfl : mfetch 116 65 = some (65, .if_icmp .ge 41, 3, 0, 0, 0)) rfl (k_ge hc2) ?_
        refine mEnds.cut (l := [some (.ref 10), some (.int x1), some (.int x2), none]) ⟨rfl, ⟨rfl, ⟨rfl, trivial⟩⟩⟩ ?_
        exact ok_M_nameHere_106 hk2 hf
def M_nameHere_2 (s : sg) : Nat → Int32 → Option Int32
  | 0, _ => none
  | fu + 1, x1 =>
  if x1 < nI 7 then
    if s 10 14 = nI 1 then
      (midx (x1 + (nI 1)) 8).bind fun j1 =>
      (midx x1 8).bind fun j2 =>
      if (s 10 12) - (s 10 13) = (s 14 j1) - (s 14 j2) then
        M_nameHere_51 (M_nameHere_2 s fu) x1 s FU (nI 1) (nI 0)
      else
        M_nameHere_51 (M_nameHere_2 s fu) x1 s FU (nI 0) (nI 0)
    else
      some (-4)
  else
    some (-4)
set_option maxRecDepth 100000 in
theorem ok_M_nameHere_2 {s : sg} : ∀ (fu : Nat) (x1 : Int32) (rv : Int32), M_nameHere_2 s fu x1 = some rv → mEnds [] 1 116 (2, [some (.ref 10), some (.int x1), none, none], [], hp shM s, 0, 0) (some (.int rv), hp shM s, 0, 0)
  | 0, _, _, hf => by cases hf
  | fu + 1, x1, rv, hf => by
    rw [M_nameHere_2] at hf
    refine mEnds.stp 2 (pc' := 5) (l' := [some (.ref 10), some (.int x1), none, none]) (st' := [.int (nI 7), .int x1]) (fun _ => rfl) ?_
    by_cases hc1 : x1 < nI 7
    · rw [if_pos hc1] at hf
      refine t_cF (rfl : mfetch 116 5 = some (5, .if_icmp .ge 113, 3, 0, 0, 0)) (k_ge' hc1) ?_
      refine mEnds.stp 1 (pc' := 9) (l' := [some (.ref 10), some (.int x1), none, none]) (st' := [.ref 10]) (fun _ => rfl) ?_
      refine t_gi (rfl : mfetch 116 9 = some (9, .getfield 66, 3, 5, 14, 0)) rfl rfl ?_
      refine mEnds.stp 1 (pc' := 13) (l' := [some (.ref 10), some (.int x1), none, none]) (st' := [.int (nI 1), .int (s 10 14)]) (fun _ => rfl) ?_
      by_cases hc2 : s 10 14 = nI 1
      · rw [if_pos hc2] at hf
        refine t_cF (rfl : mfetch 116 13 = some (13, .if_icmp .ne 105, 3, 0, 0, 0)) (k_ne' hc2) ?_
        refine mEnds.stp 1 (pc' := 17) (l' := [some (.ref 10), some (.int x1), none, none]) (st' := [.ref 10]) (fun _ => rfl) ?_
        refine t_gi (rfl : mfetch 116 17 = some (17, .getfield 69, 3, 5, 12, 0)) rfl rfl ?_
        refine mEnds.stp 1 (pc' := 21) (l' := [some (.ref 10), some (.int x1), none, none]) (st' := [.ref 10, .int (s 10 12)]) (fun _ => rfl) ?_
        refine t_gi (rfl : mfetch 116 21 = some (21, .getfield 60, 3, 5, 13, 0)) rfl rfl ?_
        refine mEnds.stp 2 (pc' := 26) (l' := [some (.ref 10), some (.int x1), none, none]) (st' := [.ref 10, .int ((s 10 12) - (s 10 13))]) (fun _ => rfl) ?_
        refine t_gr (rfl : mfetch 116 26 = some (26, .getfield 19, 3, 5, 16, 0)) rfl rfl ?_
        refine mEnds.stp 3 (pc' := 32) (l' := [some (.ref 10), some (.int x1), none, none]) (st' := [.int (x1 + (nI 1)), .ref 14, .int ((s 10 12) - (s 10 13))]) (fun _ => rfl) ?_
        obtain ⟨j1, hj1, hf⟩ := ob hf
        refine t_ia (rfl : mfetch 116 32 = some (32, .iaload, 1, 0, 0, 0)) rfl rfl hj1 ?_
        refine mEnds.stp 1 (pc' := 34) (l' := [some (.ref 10), some (.int x1), none, none]) (st' := [.ref 10, .int (s 14 j1), .int ((s 10 12) - (s 10 13))]) (fun _ => rfl) ?_
        refine t_gr (rfl : mfetch 116 34 = some (34, .getfield 19, 3, 5, 16, 0)) rfl rfl ?_
        refine mEnds.stp 1 (pc' := 38) (l' := [some (.ref 10), some (.int x1), none, none]) (st' := [.int x1, .ref 14, .int (s 14 j1), .int ((s 10 12) - (s 10 13))]) (fun _ => rfl) ?_
        obtain ⟨j2, hj2, hf⟩ := ob hf
        refine t_ia (rfl : mfetch 116 38 = some (38, .iaload, 1, 0, 0, 0)) rfl rfl hj2 ?_
        refine mEnds.stp 1 (pc' := 40) (l' := [some (.ref 10), some (.int x1), none, none]) (st' := [.int ((s 14 j1) - (s 14 j2)), .int ((s 10 12) - (s 10 13))]) (fun _ => rfl) ?_
        by_cases hc3 : (s 10 12) - (s 10 13) = (s 14 j1) - (s 14 j2)
        · rw [if_pos hc3] at hf
          refine t_cF (rfl : mfetch 116 40 = some (40, .if_icmp .ne 7, 3, 0, 0, 0)) (k_ne' hc3) ?_
          refine mEnds.stp 5 (pc' := 51) (l' := [some (.ref 10), some (.int x1), some (.int (nI 1)), some (.int (nI 0))]) (st' := []) (fun _ => rfl) ?_
          refine mEnds.cut (l := [some (.ref 10), some (.int x1), some (.int (nI 1)), some (.int (nI 0))]) ⟨rfl, ⟨rfl, ⟨rfl, ⟨rfl, trivial⟩⟩⟩⟩ ?_
          exact ok_M_nameHere_51 (ok_M_nameHere_2 fu) FU (nI 1) (nI 0) _ hf
        · rw [if_neg hc3] at hf
          refine t_cT (t := 47) (rfl : mfetch 116 40 = some (40, .if_icmp .ne 7, 3, 0, 0, 0)) rfl (k_ne hc3) ?_
          refine mEnds.stp 4 (pc' := 51) (l' := [some (.ref 10), some (.int x1), some (.int (nI 0)), some (.int (nI 0))]) (st' := []) (fun _ => rfl) ?_
          refine mEnds.cut (l := [some (.ref 10), some (.int x1), some (.int (nI 0)), some (.int (nI 0))]) ⟨rfl, ⟨rfl, ⟨rfl, ⟨rfl, trivial⟩⟩⟩⟩ ?_
          exact ok_M_nameHere_51 (ok_M_nameHere_2 fu) FU (nI 0) (nI 0) _ hf
      · rw [if_neg hc2] at hf
        refine t_cT (t := 118) (rfl : mfetch 116 13 = some (13, .if_icmp .ne 105, 3, 0, 0, 0)) rfl (k_ne hc2) ?_
        refine mEnds.stp 1 (pc' := 120) (l' := [some (.ref 10), some (.int x1), none, none]) (st' := [.int (-4)]) (fun _ => rfl) ?_
        cases hf; exact mEnds.rt (fun _ => rfl)
    · rw [if_neg hc1] at hf
      refine t_cT (t := 118) (rfl : mfetch 116 5 = some (5, .if_icmp .ge 113, 3, 0, 0, 0)) rfl (k_ge hc1) ?_
      refine mEnds.stp 1 (pc' := 120) (l' := [some (.ref 10), some (.int x1), none, none]) (st' := [.int (-4)]) (fun _ => rfl) ?_
      cases hf; exact mEnds.rt (fun _ => rfl)
def M_nameHere (s : sg) : Option Int32 :=
  M_nameHere_2 s FU (nI 0)
set_option maxRecDepth 100000 in
theorem ok_M_nameHere {s : sg} {rv : Int32} (hf : M_nameHere s = some rv) : mEnds [] 1 116 (0, [some (.ref 10), none, none, none], [], hp shM s, 0, 0) (some (.int rv), hp shM s, 0, 0) := by
  unfold M_nameHere at hf
  refine mEnds.stp 2 (pc' := 2) (l' := [some (.ref 10), some (.int (nI 0)), none, none]) (st' := []) (fun _ => rfl) ?_
  refine mEnds.cut (l := [some (.ref 10), some (.int (nI 0)), none, none]) ⟨rfl, ⟨rfl, trivial⟩⟩ ?_
  exact ok_M_nameHere_2 FU (nI 0) _ hf
def M_step_84 : Nat → sg → Option sg
  | 0, _ => none
  | fu + 1, s =>
  (M_byteAt (s 10 12) s).bind fun v1 =>
  (M_in v1.toInt64 (97 : Int64) (122 : Int64) s).bind fun v2 =>
  if v2 = 0 then
    (some (up s 10 14 (nI 1))).bind fun s1 =>
    some s1
  else
    (some (up s 10 12 ((s 10 12) + (nI 1)))).bind fun s2 =>
    M_step_84 fu s2
set_option maxRecDepth 100000 in
theorem ok_M_step_84 : ∀ (fu : Nat) (s : sg) (rv : sg), M_step_84 fu s = some rv → mEnds [] 1 117 (84, [some (.ref 10), none], [], hp shM s, 0, 0) (none, hp shM rv, 0, 0)
  | 0, _, _, hf => by cases hf
  | fu + 1, s, rv, hf => by
    rw [M_step_84] at hf
    refine mEnds.stp 2 (pc' := 86) (l' := [some (.ref 10), none]) (st' := [.ref 10, .ref 10]) (fun _ => rfl) ?_
    refine t_gi (rfl : mfetch 117 86 = some (86, .getfield 69, 3, 5, 12, 0)) rfl rfl ?_
    obtain ⟨v1, hv1, hf⟩ := ob hf
    refine t_cv (as := [.int (s 10 12)]) (st := []) (rfl : mfetch 117 89 = some (89, .invokevirtual 72, 3, 114, 0, 0)) rfl rfl rfl rfl rfl (ok_M_byteAt hv1) ?_
    refine mEnds.stp 3 (pc' := 99) (l' := [some (.ref 10), none]) (st' := [.long (122 : Int64), .long (97 : Int64), .long v1.toInt64]) (fun _ => rfl) ?_
    obtain ⟨v2, hv2, hf⟩ := ob hf
    refine t_cs (as := [.long v1.toInt64, .long (97 : Int64), .long (122 : Int64)]) (st := []) (Or.inl rfl) (rfl : mfetch 117 99 = some (99, .invokestatic 49, 3, 111, 0, 0)) rfl rfl rfl (ok_M_in hv2) ?_
    by_cases hc1 : v2 = 0
    · rw [if_pos hc1] at hf
      refine t_jT (t := 118) (rfl : mfetch 117 102 = some (102, .ifCond .eq 16, 3, 0, 0, 0)) rfl (k_eq hc1) ?_
      refine mEnds.stp 2 (pc' := 120) (l' := [some (.ref 10), none]) (st' := [.int (nI 1), .ref 10]) (fun _ => rfl) ?_
      obtain ⟨s1, hs1, hf⟩ := ob hf
      refine t_pi (rfl : mfetch 117 120 = some (120, .putfield 66, 3, 5, 14, 0)) rfl rfl rfl rfl hs1 ?_
      refine mEnds.stp 1 (pc' := 269) (l' := [some (.ref 10), none]) (st' := []) (fun _ => rfl) ?_
      cases hf; exact mEnds.rt (fun _ => rfl)
    · rw [if_neg hc1] at hf
      refine t_jF (rfl : mfetch 117 102 = some (102, .ifCond .eq 16, 3, 0, 0, 0)) (k_eq' hc1) ?_
      refine mEnds.stp 2 (pc' := 107) (l' := [some (.ref 10), none]) (st' := [.ref 10, .ref 10]) (fun _ => rfl) ?_
      refine t_gi (rfl : mfetch 117 107 = some (107, .getfield 69, 3, 5, 12, 0)) rfl rfl ?_
      refine mEnds.stp 2 (pc' := 112) (l' := [some (.ref 10), none]) (st' := [.int ((s 10 12) + (nI 1)), .ref 10]) (fun _ => rfl) ?_
      obtain ⟨s2, hs2, hf⟩ := ob hf
      refine t_pi (rfl : mfetch 117 112 = some (112, .putfield 69, 3, 5, 12, 0)) rfl rfl rfl rfl hs2 ?_
      refine mEnds.stp 1 (pc' := 84) (l' := [some (.ref 10), none]) (st' := []) (fun _ => rfl) ?_
      refine mEnds.cut (l := [some (.ref 10), none]) ⟨rfl, trivial⟩ ?_
      exact ok_M_step_84 fu s2 _ hf
def M_step_201 (k140 : sg → Option sg) (y0 : Int32) (s : sg) : Option sg :=
  (some (up s 10 15 y0)).bind fun s1 =>
  (some (up s1 10 12 ((s1 10 12) + (nI 1)))).bind fun s2 =>
  k140 s2
set_option maxRecDepth 100000 in
theorem ok_M_step_201 {k140 : sg → Option sg} {y0 : Int32} {s : sg} {rv : sg} (hk140 : ∀  (s : sg) (rv : sg), k140 s = some rv → mEnds [] 1 117 (140, [some (.ref 10), none], [], hp shM s, 0, 0) (none, hp shM rv, 0, 0)) (hf : M_step_201 k140 y0 s = some rv) : mEnds [] 1 117 (201, [some (.ref 10), none], [.int y0, .ref 10], hp shM s, 0, 0) (none, hp shM rv, 0, 0) := by
  unfold M_step_201 at hf
  obtain ⟨s1, hs1, hf⟩ := ob hf
  refine t_pi (rfl : mfetch 117 201 = some (201, .putfield 76, 3, 5, 15, 0)) rfl rfl rfl rfl hs1 ?_
  refine mEnds.stp 2 (pc' := 206) (l' := [some (.ref 10), none]) (st' := [.ref 10, .ref 10]) (fun _ => rfl) ?_
  refine t_gi (rfl : mfetch 117 206 = some (206, .getfield 69, 3, 5, 12, 0)) rfl rfl ?_
  refine mEnds.stp 2 (pc' := 211) (l' := [some (.ref 10), none]) (st' := [.int ((s1 10 12) + (nI 1)), .ref 10]) (fun _ => rfl) ?_
  obtain ⟨s2, hs2, hf⟩ := ob hf
  refine t_pi (rfl : mfetch 117 211 = some (211, .putfield 69, 3, 5, 12, 0)) rfl rfl rfl rfl hs2 ?_
  refine mEnds.stp 1 (pc' := 140) (l' := [some (.ref 10), none]) (st' := []) (fun _ => rfl) ?_
  refine mEnds.cut (l := [some (.ref 10), none]) ⟨rfl, trivial⟩ ?_
  exact hk140 s2 _ hf
def M_step_140 : Nat → sg → Option sg
  | 0, _ => none
  | fu + 1, s =>
  (M_byteAt (s 10 12) s).bind fun v1 =>
  (M_in v1.toInt64 (48 : Int64) (57 : Int64) s).bind fun v2 =>
  if v2 = 0 then
    (some (up s 10 14 (nI 2))).bind fun s1 =>
    if nI 2 < (s1 10 12) - (s1 10 13) then
      (M_fails (nI 1) s1).bind fun s2 =>
      some s2
    else
      some s1
  else
    if (s 10 12) - (s 10 13) < nI 2 then
      (M_byteAt (s 10 12) s).bind fun v4 =>
      M_step_201 (M_step_140 fu) ((((nI 10) * (s 10 15)) + v4) - (nI 48)) s
    else
      M_step_201 (M_step_140 fu) (s 10 15) s
set_option maxRecDepth 100000 in
theorem ok_M_step_140 : ∀ (fu : Nat) (s : sg) (rv : sg), M_step_140 fu s = some rv → mEnds [] 1 117 (140, [some (.ref 10), none], [], hp shM s, 0, 0) (none, hp shM rv, 0, 0)
  | 0, _, _, hf => by cases hf
  | fu + 1, s, rv, hf => by
    rw [M_step_140] at hf
    refine mEnds.stp 2 (pc' := 142) (l' := [some (.ref 10), none]) (st' := [.ref 10, .ref 10]) (fun _ => rfl) ?_
    refine t_gi (rfl : mfetch 117 142 = some (142, .getfield 69, 3, 5, 12, 0)) rfl rfl ?_
    obtain ⟨v1, hv1, hf⟩ := ob hf
    refine t_cv (as := [.int (s 10 12)]) (st := []) (rfl : mfetch 117 145 = some (145, .invokevirtual 72, 3, 114, 0, 0)) rfl rfl rfl rfl rfl (ok_M_byteAt hv1) ?_
    refine mEnds.stp 3 (pc' := 155) (l' := [some (.ref 10), none]) (st' := [.long (57 : Int64), .long (48 : Int64), .long v1.toInt64]) (fun _ => rfl) ?_
    obtain ⟨v2, hv2, hf⟩ := ob hf
    refine t_cs (as := [.long v1.toInt64, .long (48 : Int64), .long (57 : Int64)]) (st := []) (Or.inl rfl) (rfl : mfetch 117 155 = some (155, .invokestatic 49, 3, 111, 0, 0)) rfl rfl rfl (ok_M_in hv2) ?_
    by_cases hc1 : v2 = 0
    · rw [if_pos hc1] at hf
      refine t_jT (t := 217) (rfl : mfetch 117 158 = some (158, .ifCond .eq 59, 3, 0, 0, 0)) rfl (k_eq hc1) ?_
      refine mEnds.stp 2 (pc' := 219) (l' := [some (.ref 10), none]) (st' := [.int (nI 2), .ref 10]) (fun _ => rfl) ?_
      obtain ⟨s1, hs1, hf⟩ := ob hf
      refine t_pi (rfl : mfetch 117 219 = some (219, .putfield 66, 3, 5, 14, 0)) rfl rfl rfl rfl hs1 ?_
      refine mEnds.stp 1 (pc' := 223) (l' := [some (.ref 10), none]) (st' := [.ref 10]) (fun _ => rfl) ?_
      refine t_gi (rfl : mfetch 117 223 = some (223, .getfield 69, 3, 5, 12, 0)) rfl rfl ?_
      refine mEnds.stp 1 (pc' := 227) (l' := [some (.ref 10), none]) (st' := [.ref 10, .int (s1 10 12)]) (fun _ => rfl) ?_
      refine t_gi (rfl : mfetch 117 227 = some (227, .getfield 60, 3, 5, 13, 0)) rfl rfl ?_
      refine mEnds.stp 2 (pc' := 232) (l' := [some (.ref 10), none]) (st' := [.int (nI 2), .int ((s1 10 12) - (s1 10 13))]) (fun _ => rfl) ?_
      by_cases hc2 : nI 2 < (s1 10 12) - (s1 10 13)
      · rw [if_pos hc2] at hf
        refine t_cF (rfl : mfetch 117 232 = some (232, .if_icmp .le 37, 3, 0, 0, 0)) (k_le' hc2) ?_
        refine mEnds.stp 2 (pc' := 237) (l' := [some (.ref 10), none]) (st' := [.int (nI 1), .ref 10]) (fun _ => rfl) ?_
        obtain ⟨s2, hs2, hf⟩ := ob hf
        refine t_cv (as := [.int (nI 1)]) (st := []) (rfl : mfetch 117 237 = some (237, .invokevirtual 87, 3, 115, 0, 0)) rfl rfl rfl rfl rfl (ok_M_fails hs2) ?_
        refine mEnds.stp 1 (pc' := 269) (l' := [some (.ref 10), none]) (st' := []) (fun _ => rfl) ?_
        cases hf; exact mEnds.rt (fun _ => rfl)
      · rw [if_neg hc2] at hf
        refine t_cT (t := 269) (rfl : mfetch 117 232 = some (232, .if_icmp .le 37, 3, 0, 0, 0)) rfl (k_le hc2) ?_
        cases hf; exact mEnds.rt (fun _ => rfl)
    · rw [if_neg hc1] at hf
      refine t_jF (rfl : mfetch 117 158 = some (158, .ifCond .eq 59, 3, 0, 0, 0)) (k_eq' hc1) ?_
      refine mEnds.stp 2 (pc' := 163) (l' := [some (.ref 10), none]) (st' := [.ref 10, .ref 10]) (fun _ => rfl) ?_
      refine t_gi (rfl : mfetch 117 163 = some (163, .getfield 69, 3, 5, 12, 0)) rfl rfl ?_
      refine mEnds.stp 1 (pc' := 167) (l' := [some (.ref 10), none]) (st' := [.ref 10, .int (s 10 12), .ref 10]) (fun _ => rfl) ?_
      refine t_gi (rfl : mfetch 117 167 = some (167, .getfield 60, 3, 5, 13, 0)) rfl rfl ?_
      refine mEnds.stp 2 (pc' := 172) (l' := [some (.ref 10), none]) (st' := [.int (nI 2), .int ((s 10 12) - (s 10 13)), .ref 10]) (fun _ => rfl) ?_
      by_cases hc3 : (s 10 12) - (s 10 13) < nI 2
      · rw [if_pos hc3] at hf
        refine t_cF (rfl : mfetch 117 172 = some (172, .if_icmp .ge 25, 3, 0, 0, 0)) (k_ge' hc3) ?_
        refine mEnds.stp 2 (pc' := 178) (l' := [some (.ref 10), none]) (st' := [.ref 10, .int (nI 10), .ref 10]) (fun _ => rfl) ?_
        refine t_gi (rfl : mfetch 117 178 = some (178, .getfield 76, 3, 5, 15, 0)) rfl rfl ?_
        refine mEnds.stp 3 (pc' := 184) (l' := [some (.ref 10), none]) (st' := [.ref 10, .ref 10, .int ((nI 10) * (s 10 15)), .ref 10]) (fun _ => rfl) ?_
        refine t_gi (rfl : mfetch 117 184 = some (184, .getfield 69, 3, 5, 12, 0)) rfl rfl ?_
        obtain ⟨v4, hv4, hf⟩ := ob hf
        refine t_cv (as := [.int (s 10 12)]) (st := [.int ((nI 10) * (s 10 15)), .ref 10]) (rfl : mfetch 117 187 = some (187, .invokevirtual 72, 3, 114, 0, 0)) rfl rfl rfl rfl rfl (ok_M_byteAt hv4) ?_
        refine mEnds.stp 4 (pc' := 201) (l' := [some (.ref 10), none]) (st' := [.int ((((nI 10) * (s 10 15)) + v4) - (nI 48)), .ref 10]) (fun _ => rfl) ?_
        refine mEnds.cut (l := [some (.ref 10), none]) ⟨rfl, trivial⟩ ?_
        exact ok_M_step_201 (ok_M_step_140 fu) hf
      · rw [if_neg hc3] at hf
        refine t_cT (t := 197) (rfl : mfetch 117 172 = some (172, .if_icmp .ge 25, 3, 0, 0, 0)) rfl (k_ge hc3) ?_
        refine mEnds.stp 1 (pc' := 198) (l' := [some (.ref 10), none]) (st' := [.ref 10, .ref 10]) (fun _ => rfl) ?_
        refine t_gi (rfl : mfetch 117 198 = some (198, .getfield 76, 3, 5, 15, 0)) rfl rfl ?_
        refine mEnds.cut (l := [some (.ref 10), none]) ⟨rfl, trivial⟩ ?_
        exact ok_M_step_201 (ok_M_step_140 fu) hf
def M_step_8 : Nat → sg → Option sg
  | 0, _ => none
  | fu + 1, s =>
  (M_byteAt (s 10 12) s).bind fun v1 =>
  if v1 = nI 32 then
    (some (up s 10 12 ((s 10 12) + (nI 1)))).bind fun s7 =>
    M_step_8 fu s7
  else
    (some (up s 10 13 (s 10 12))).bind fun s1 =>
    (M_byteAt (s1 10 12) s1).bind fun v2 =>
    (some (up s1 10 15 (nI 0))).bind fun s2 =>
    if v2 = (-4) then
      (some (up s2 10 14 (nI 0))).bind fun s6 =>
      some s6
    else
      (M_in v2.toInt64 (97 : Int64) (122 : Int64) s2).bind fun v3 =>
      if v3 = 0 then
        (M_in v2.toInt64 (48 : Int64) (57 : Int64) s2).bind fun v4 =>
        if v4 = 0 then
          (some (up s2 10 14 (nI 3))).bind fun s3 =>
          (some (up s3 10 12 ((s3 10 12) + (nI 1)))).bind fun s4 =>
          if v2 = nI 59 then
            some s4
          else
            (M_fails (nI 1) s4).bind fun s5 =>
            some s5
        else
          M_step_140 FU s2
      else
        M_step_84 FU s2
set_option maxRecDepth 100000 in
theorem ok_M_step_8 : ∀ (fu : Nat) (s : sg) (rv : sg), M_step_8 fu s = some rv → mEnds [] 1 117 (8, [some (.ref 10), none], [], hp shM s, 0, 0) (none, hp shM rv, 0, 0)
  | 0, _, _, hf => by cases hf
  | fu + 1, s, rv, hf => by
    rw [M_step_8] at hf
    refine mEnds.stp 2 (pc' := 10) (l' := [some (.ref 10), none]) (st' := [.ref 10, .ref 10]) (fun _ => rfl) ?_
    refine t_gi (rfl : mfetch 117 10 = some (10, .getfield 69, 3, 5, 12, 0)) rfl rfl ?_
    obtain ⟨v1, hv1, hf⟩ := ob hf
    refine t_cv (as := [.int (s 10 12)]) (st := []) (rfl : mfetch 117 13 = some (13, .invokevirtual 72, 3, 114, 0, 0)) rfl rfl rfl rfl rfl (ok_M_byteAt hv1) ?_
    refine mEnds.stp 1 (pc' := 18) (l' := [some (.ref 10), none]) (st' := [.int (nI 32), .int v1]) (fun _ => rfl) ?_
    by_cases hc1 : v1 = nI 32
    · rw [if_pos hc1] at hf
      refine t_cF (rfl : mfetch 117 18 = some (18, .if_icmp .ne 16, 3, 0, 0, 0)) (k_ne' hc1) ?_
      refine mEnds.stp 2 (pc' := 23) (l' := [some (.ref 10), none]) (st' := [.ref 10, .ref 10]) (fun _ => rfl) ?_
      refine t_gi (rfl : mfetch 117 23 = some (23, .getfield 69, 3, 5, 12, 0)) rfl rfl ?_
      refine mEnds.stp 2 (pc' := 28) (l' := [some (.ref 10), none]) (st' := [.int ((s 10 12) + (nI 1)), .ref 10]) (fun _ => rfl) ?_
      obtain ⟨s7, hs7, hf⟩ := ob hf
      refine t_pi (rfl : mfetch 117 28 = some (28, .putfield 69, 3, 5, 12, 0)) rfl rfl rfl rfl hs7 ?_
      refine mEnds.stp 1 (pc' := 8) (l' := [some (.ref 10), none]) (st' := []) (fun _ => rfl) ?_
      refine mEnds.cut (l := [some (.ref 10), none]) ⟨rfl, trivial⟩ ?_
      exact ok_M_step_8 fu s7 _ hf
    · rw [if_neg hc1] at hf
      refine t_cT (t := 34) (rfl : mfetch 117 18 = some (18, .if_icmp .ne 16, 3, 0, 0, 0)) rfl (k_ne hc1) ?_
      refine mEnds.stp 2 (pc' := 36) (l' := [some (.ref 10), none]) (st' := [.ref 10, .ref 10]) (fun _ => rfl) ?_
      refine t_gi (rfl : mfetch 117 36 = some (36, .getfield 69, 3, 5, 12, 0)) rfl rfl ?_
      obtain ⟨s1, hs1, hf⟩ := ob hf
      refine t_pi (rfl : mfetch 117 39 = some (39, .putfield 60, 3, 5, 13, 0)) rfl rfl rfl rfl hs1 ?_
      refine mEnds.stp 2 (pc' := 44) (l' := [some (.ref 10), none]) (st' := [.ref 10, .ref 10]) (fun _ => rfl) ?_
      refine t_gi (rfl : mfetch 117 44 = some (44, .getfield 69, 3, 5, 12, 0)) rfl rfl ?_
      obtain ⟨v2, hv2, hf⟩ := ob hf
      refine t_cv (as := [.int (s1 10 12)]) (st := []) (rfl : mfetch 117 47 = some (47, .invokevirtual 72, 3, 114, 0, 0)) rfl rfl rfl rfl rfl (ok_M_byteAt hv2) ?_
      refine mEnds.stp 3 (pc' := 53) (l' := [some (.ref 10), some (.int v2)]) (st' := [.int (nI 0), .ref 10]) (fun _ => rfl) ?_
      obtain ⟨s2, hs2, hf⟩ := ob hf
      refine t_pi (rfl : mfetch 117 53 = some (53, .putfield 76, 3, 5, 15, 0)) rfl rfl rfl rfl hs2 ?_
      refine mEnds.stp 2 (pc' := 59) (l' := [some (.ref 10), some (.int v2)]) (st' := [.int (-4), .int v2]) (fun _ => rfl) ?_
      by_cases hc2 : v2 = (-4)
      · rw [if_pos hc2] at hf
        refine t_cF (rfl : mfetch 117 59 = some (59, .if_icmp .ne 11, 3, 0, 0, 0)) (k_ne' hc2) ?_
        refine mEnds.stp 2 (pc' := 64) (l' := [some (.ref 10), some (.int v2)]) (st' := [.int (nI 0), .ref 10]) (fun _ => rfl) ?_
        obtain ⟨s6, hs6, hf⟩ := ob hf
        refine t_pi (rfl : mfetch 117 64 = some (64, .putfield 66, 3, 5, 14, 0)) rfl rfl rfl rfl hs6 ?_
        refine mEnds.stp 1 (pc' := 269) (l' := [some (.ref 10), some (.int v2)]) (st' := []) (fun _ => rfl) ?_
        cases hf; exact mEnds.rt (fun _ => rfl)
      · rw [if_neg hc2] at hf
        refine t_cT (t := 70) (rfl : mfetch 117 59 = some (59, .if_icmp .ne 11, 3, 0, 0, 0)) rfl (k_ne hc2) ?_
        refine mEnds.stp 4 (pc' := 78) (l' := [some (.ref 10), some (.int v2)]) (st' := [.long (122 : Int64), .long (97 : Int64), .long v2.toInt64]) (fun _ => rfl) ?_
        obtain ⟨v3, hv3, hf⟩ := ob hf
        refine t_cs (as := [.long v2.toInt64, .long (97 : Int64), .long (122 : Int64)]) (st := []) (Or.inl rfl) (rfl : mfetch 117 78 = some (78, .invokestatic 49, 3, 111, 0, 0)) rfl rfl rfl (ok_M_in hv3) ?_
        by_cases hc3 : v3 = 0
        · rw [if_pos hc3] at hf
          refine t_jT (t := 126) (rfl : mfetch 117 81 = some (81, .ifCond .eq 45, 3, 0, 0, 0)) rfl (k_eq hc3) ?_
          refine mEnds.stp 4 (pc' := 134) (l' := [some (.ref 10), some (.int v2)]) (st' := [.long (57 : Int64), .long (48 : Int64), .long v2.toInt64]) (fun _ => rfl) ?_
          obtain ⟨v4, hv4, hf⟩ := ob hf
          refine t_cs (as := [.long v2.toInt64, .long (48 : Int64), .long (57 : Int64)]) (st := []) (Or.inl rfl) (rfl : mfetch 117 134 = some (134, .invokestatic 49, 3, 111, 0, 0)) rfl rfl rfl (ok_M_in hv4) ?_
          by_cases hc4 : v4 = 0
          · rw [if_pos hc4] at hf
            refine t_jT (t := 243) (rfl : mfetch 117 137 = some (137, .ifCond .eq 106, 3, 0, 0, 0)) rfl (k_eq hc4) ?_
            refine mEnds.stp 2 (pc' := 245) (l' := [some (.ref 10), some (.int v2)]) (st' := [.int (nI 3), .ref 10]) (fun _ => rfl) ?_
            obtain ⟨s3, hs3, hf⟩ := ob hf
            refine t_pi (rfl : mfetch 117 245 = some (245, .putfield 66, 3, 5, 14, 0)) rfl rfl rfl rfl hs3 ?_
            refine mEnds.stp 2 (pc' := 250) (l' := [some (.ref 10), some (.int v2)]) (st' := [.ref 10, .ref 10]) (fun _ => rfl) ?_
            refine t_gi (rfl : mfetch 117 250 = some (250, .getfield 69, 3, 5, 12, 0)) rfl rfl ?_
            refine mEnds.stp 2 (pc' := 255) (l' := [some (.ref 10), some (.int v2)]) (st' := [.int ((s3 10 12) + (nI 1)), .ref 10]) (fun _ => rfl) ?_
            obtain ⟨s4, hs4, hf⟩ := ob hf
            refine t_pi (rfl : mfetch 117 255 = some (255, .putfield 69, 3, 5, 12, 0)) rfl rfl rfl rfl hs4 ?_
            refine mEnds.stp 2 (pc' := 261) (l' := [some (.ref 10), some (.int v2)]) (st' := [.int (nI 59), .int v2]) (fun _ => rfl) ?_
            by_cases hc5 : v2 = nI 59
            · rw [if_pos hc5] at hf
              refine t_cT (t := 269) (rfl : mfetch 117 261 = some (261, .if_icmp .eq 8, 3, 0, 0, 0)) rfl (k_eq hc5) ?_
              cases hf; exact mEnds.rt (fun _ => rfl)
            · rw [if_neg hc5] at hf
              refine t_cF (rfl : mfetch 117 261 = some (261, .if_icmp .eq 8, 3, 0, 0, 0)) (k_eq' hc5) ?_
              refine mEnds.stp 2 (pc' := 266) (l' := [some (.ref 10), some (.int v2)]) (st' := [.int (nI 1), .ref 10]) (fun _ => rfl) ?_
              obtain ⟨s5, hs5, hf⟩ := ob hf
              refine t_cv (as := [.int (nI 1)]) (st := []) (rfl : mfetch 117 266 = some (266, .invokevirtual 87, 3, 115, 0, 0)) rfl rfl rfl rfl rfl (ok_M_fails hs5) ?_
              cases hf; exact mEnds.rt (fun _ => rfl)
          · rw [if_neg hc4] at hf
            refine t_jF (rfl : mfetch 117 137 = some (137, .ifCond .eq 106, 3, 0, 0, 0)) (k_eq' hc4) ?_
            refine mEnds.cut (l := [some (.ref 10), none]) ⟨rfl, trivial⟩ ?_
            exact ok_M_step_140 FU s2 _ hf
        · rw [if_neg hc3] at hf
          refine t_jF (rfl : mfetch 117 81 = some (81, .ifCond .eq 45, 3, 0, 0, 0)) (k_eq' hc3) ?_
          refine mEnds.cut (l := [some (.ref 10), none]) ⟨rfl, trivial⟩ ?_
          exact ok_M_step_84 FU s2 _ hf
def M_step (s : sg) : Option sg :=
  if 0 < s 10 10 then
    some s
  else
    M_step_8 FU s
set_option maxRecDepth 100000 in
theorem ok_M_step {s : sg} {rv : sg} (hf : M_step s = some rv) : mEnds [] 1 117 (0, [some (.ref 10), none], [], hp shM s, 0, 0) (none, hp shM rv, 0, 0) := by
  unfold M_step at hf
  refine mEnds.stp 1 (pc' := 1) (l' := [some (.ref 10), none]) (st' := [.ref 10]) (fun _ => rfl) ?_
  refine t_gi (rfl : mfetch 117 1 = some (1, .getfield 57, 3, 5, 10, 0)) rfl rfl ?_
  by_cases hc1 : 0 < s 10 10
  · rw [if_pos hc1] at hf
    refine t_jF (rfl : mfetch 117 4 = some (4, .ifCond .le 4, 3, 0, 0, 0)) (k_le' hc1) ?_
    cases hf; exact mEnds.rt (fun _ => rfl)
  · rw [if_neg hc1] at hf
    refine t_jT (t := 8) (rfl : mfetch 117 4 = some (4, .ifCond .le 4, 3, 0, 0, 0)) rfl (k_le hc1) ?_
    refine mEnds.cut (l := [some (.ref 10), none]) ⟨rfl, trivial⟩ ?_
    exact ok_M_step_8 FU s _ hf
def M_number_62 (y0 : Int32) (s : sg) : Option (Int32 × sg) :=
  (M_step s).bind fun s1 =>
  some (y0, s1)
set_option maxRecDepth 100000 in
theorem ok_M_number_62 {y0 : Int32} {s : sg} {rv : (Int32 × sg)} (hf : M_number_62 y0 s = some rv) : mEnds [] 2 118 (62, [some (.ref 10), none, none, none], [.int y0], hp shM s, 0, 0) (some (.int rv.1), hp shM rv.2, 0, 0) := by
  unfold M_number_62 at hf
  refine mEnds.stp 2 (pc' := 64) (l' := [some (.ref 10), none, none, some (.int y0)]) (st' := [.ref 10]) (fun _ => rfl) ?_
  obtain ⟨s1, hs1, hf⟩ := ob hf
  refine t_cv (as := []) (st := []) (rfl : mfetch 118 64 = some (64, .invokevirtual 91, 3, 117, 0, 0)) rfl rfl rfl rfl rfl (ok_M_step hs1) ?_
  refine mEnds.stp 1 (pc' := 68) (l' := [some (.ref 10), none, none, some (.int y0)]) (st' := [.int y0]) (fun _ => rfl) ?_
  exact mEnds.rti (Option.some.inj hf) (fun _ => rfl)
def M_number_47 (x1 : Int32) (s : sg) : Option (Int32 × sg) :=
  if s 10 10 = 0 then
    M_number_62 (s 10 15) s
  else
    M_number_62 x1 s
set_option maxRecDepth 100000 in
theorem ok_M_number_47 {x1 : Int32} {s : sg} {rv : (Int32 × sg)} (hf : M_number_47 x1 s = some rv) : mEnds [] 2 118 (47, [some (.ref 10), some (.int x1), none, none], [], hp shM s, 0, 0) (some (.int rv.1), hp shM rv.2, 0, 0) := by
  unfold M_number_47 at hf
  refine mEnds.stp 1 (pc' := 48) (l' := [some (.ref 10), some (.int x1), none, none]) (st' := [.ref 10]) (fun _ => rfl) ?_
  refine t_gi (rfl : mfetch 118 48 = some (48, .getfield 57, 3, 5, 10, 0)) rfl rfl ?_
  by_cases hc1 : s 10 10 = 0
  · rw [if_pos hc1] at hf
    refine t_jF (rfl : mfetch 118 51 = some (51, .ifCond .ne 10, 3, 0, 0, 0)) (k_ne' hc1) ?_
    refine mEnds.stp 1 (pc' := 55) (l' := [some (.ref 10), some (.int x1), none, none]) (st' := [.ref 10]) (fun _ => rfl) ?_
    refine t_gi (rfl : mfetch 118 55 = some (55, .getfield 76, 3, 5, 15, 0)) rfl rfl ?_
    refine mEnds.stp 1 (pc' := 62) (l' := [some (.ref 10), some (.int x1), none, none]) (st' := [.int (s 10 15)]) (fun _ => rfl) ?_
    refine mEnds.cut (l := [some (.ref 10), none, none, none]) ⟨rfl, trivial⟩ ?_
    exact ok_M_number_62 hf
  · rw [if_neg hc1] at hf
    refine t_jT (t := 61) (rfl : mfetch 118 51 = some (51, .ifCond .ne 10, 3, 0, 0, 0)) rfl (k_ne hc1) ?_
    refine mEnds.stp 1 (pc' := 62) (l' := [some (.ref 10), some (.int x1), none, none]) (st' := [.int x1]) (fun _ => rfl) ?_
    refine mEnds.cut (l := [some (.ref 10), none, none, none]) ⟨rfl, trivial⟩ ?_
    exact ok_M_number_62 hf
def M_number_20 (x1 : Int32) (x2 : Int32) (s : sg) : Option (Int32 × sg) :=
  if s 10 10 = 0 then
    (M_in ((s 10 15).toInt64) x1.toInt64 x2.toInt64 s).bind fun v1 =>
    if v1 = 0 then
      (M_fails (nI 3) s).bind fun s1 =>
      M_number_47 x1 s1
    else
      M_number_47 x1 s
  else
    M_number_47 x1 s
set_option maxRecDepth 100000 in
theorem ok_M_number_20 {x1 : Int32} {x2 : Int32} {s : sg} {rv : (Int32 × sg)} (hf : M_number_20 x1 x2 s = some rv) : mEnds [] 2 118 (20, [some (.ref 10), some (.int x1), some (.int x2), none], [], hp shM s, 0, 0) (some (.int rv.1), hp shM rv.2, 0, 0) := by
  unfold M_number_20 at hf
  refine mEnds.stp 1 (pc' := 21) (l' := [some (.ref 10), some (.int x1), some (.int x2), none]) (st' := [.ref 10]) (fun _ => rfl) ?_
  refine t_gi (rfl : mfetch 118 21 = some (21, .getfield 57, 3, 5, 10, 0)) rfl rfl ?_
  by_cases hc1 : s 10 10 = 0
  · rw [if_pos hc1] at hf
    refine t_jF (rfl : mfetch 118 24 = some (24, .ifCond .ne 23, 3, 0, 0, 0)) (k_ne' hc1) ?_
    refine mEnds.stp 1 (pc' := 28) (l' := [some (.ref 10), some (.int x1), some (.int x2), none]) (st' := [.ref 10]) (fun _ => rfl) ?_
    refine t_gi (rfl : mfetch 118 28 = some (28, .getfield 76, 3, 5, 15, 0)) rfl rfl ?_
    refine mEnds.stp 5 (pc' := 36) (l' := [some (.ref 10), some (.int x1), some (.int x2), none]) (st' := [.long x2.toInt64, .long x1.toInt64, .long ((s 10 15).toInt64)]) (fun _ => rfl) ?_
    obtain ⟨v1, hv1, hf⟩ := ob hf
    refine t_cs (as := [.long ((s 10 15).toInt64), .long x1.toInt64, .long x2.toInt64]) (st := []) (Or.inl rfl) (rfl : mfetch 118 36 = some (36, .invokestatic 49, 3, 111, 0, 0)) rfl rfl rfl ((ok_M_in hv1).deep 1) ?_
    by_cases hc2 : v1 = 0
    · rw [if_pos hc2] at hf
      refine t_jF (rfl : mfetch 118 39 = some (39, .ifCond .ne 8, 3, 0, 0, 0)) (k_ne' hc2) ?_
      refine mEnds.stp 2 (pc' := 44) (l' := [some (.ref 10), some (.int x1), some (.int x2), none]) (st' := [.int (nI 3), .ref 10]) (fun _ => rfl) ?_
      obtain ⟨s1, hs1, hf⟩ := ob hf
      refine t_cv (as := [.int (nI 3)]) (st := []) (rfl : mfetch 118 44 = some (44, .invokevirtual 87, 3, 115, 0, 0)) rfl rfl rfl rfl rfl ((ok_M_fails hs1).deep 1) ?_
      refine mEnds.cut (l := [some (.ref 10), some (.int x1), none, none]) ⟨rfl, ⟨rfl, trivial⟩⟩ ?_
      exact ok_M_number_47 hf
    · rw [if_neg hc2] at hf
      refine t_jT (t := 47) (rfl : mfetch 118 39 = some (39, .ifCond .ne 8, 3, 0, 0, 0)) rfl (k_ne hc2) ?_
      refine mEnds.cut (l := [some (.ref 10), some (.int x1), none, none]) ⟨rfl, ⟨rfl, trivial⟩⟩ ?_
      exact ok_M_number_47 hf
  · rw [if_neg hc1] at hf
    refine t_jT (t := 47) (rfl : mfetch 118 24 = some (24, .ifCond .ne 23, 3, 0, 0, 0)) rfl (k_ne hc1) ?_
    refine mEnds.cut (l := [some (.ref 10), some (.int x1), none, none]) ⟨rfl, ⟨rfl, trivial⟩⟩ ?_
    exact ok_M_number_47 hf
def M_number (x1 : Int32) (x2 : Int32) (s : sg) : Option (Int32 × sg) :=
  if s 10 10 = 0 then
    if s 10 14 = nI 2 then
      M_number_20 x1 x2 s
    else
      (M_fails (nI 2) s).bind fun s1 =>
      M_number_20 x1 x2 s1
  else
    M_number_20 x1 x2 s
set_option maxRecDepth 100000 in
theorem ok_M_number {x1 : Int32} {x2 : Int32} {s : sg} {rv : (Int32 × sg)} (hf : M_number x1 x2 s = some rv) : mEnds [] 2 118 (0, [some (.ref 10), some (.int x1), some (.int x2), none], [], hp shM s, 0, 0) (some (.int rv.1), hp shM rv.2, 0, 0) := by
  unfold M_number at hf
  refine mEnds.stp 1 (pc' := 1) (l' := [some (.ref 10), some (.int x1), some (.int x2), none]) (st' := [.ref 10]) (fun _ => rfl) ?_
  refine t_gi (rfl : mfetch 118 1 = some (1, .getfield 57, 3, 5, 10, 0)) rfl rfl ?_
  by_cases hc1 : s 10 10 = 0
  · rw [if_pos hc1] at hf
    refine t_jF (rfl : mfetch 118 4 = some (4, .ifCond .ne 16, 3, 0, 0, 0)) (k_ne' hc1) ?_
    refine mEnds.stp 1 (pc' := 8) (l' := [some (.ref 10), some (.int x1), some (.int x2), none]) (st' := [.ref 10]) (fun _ => rfl) ?_
    refine t_gi (rfl : mfetch 118 8 = some (8, .getfield 66, 3, 5, 14, 0)) rfl rfl ?_
    refine mEnds.stp 1 (pc' := 12) (l' := [some (.ref 10), some (.int x1), some (.int x2), none]) (st' := [.int (nI 2), .int (s 10 14)]) (fun _ => rfl) ?_
    by_cases hc2 : s 10 14 = nI 2
    · rw [if_pos hc2] at hf
      refine t_cT (t := 20) (rfl : mfetch 118 12 = some (12, .if_icmp .eq 8, 3, 0, 0, 0)) rfl (k_eq hc2) ?_
      refine mEnds.cut (l := [some (.ref 10), some (.int x1), some (.int x2), none]) ⟨rfl, ⟨rfl, ⟨rfl, trivial⟩⟩⟩ ?_
      exact ok_M_number_20 hf
    · rw [if_neg hc2] at hf
      refine t_cF (rfl : mfetch 118 12 = some (12, .if_icmp .eq 8, 3, 0, 0, 0)) (k_eq' hc2) ?_
      refine mEnds.stp 2 (pc' := 17) (l' := [some (.ref 10), some (.int x1), some (.int x2), none]) (st' := [.int (nI 2), .ref 10]) (fun _ => rfl) ?_
      obtain ⟨s1, hs1, hf⟩ := ob hf
      refine t_cv (as := [.int (nI 2)]) (st := []) (rfl : mfetch 118 17 = some (17, .invokevirtual 87, 3, 115, 0, 0)) rfl rfl rfl rfl rfl ((ok_M_fails hs1).deep 1) ?_
      refine mEnds.cut (l := [some (.ref 10), some (.int x1), some (.int x2), none]) ⟨rfl, ⟨rfl, ⟨rfl, trivial⟩⟩⟩ ?_
      exact ok_M_number_20 hf
  · rw [if_neg hc1] at hf
    refine t_jT (t := 20) (rfl : mfetch 118 4 = some (4, .ifCond .ne 16, 3, 0, 0, 0)) rfl (k_ne hc1) ?_
    refine mEnds.cut (l := [some (.ref 10), some (.int x1), some (.int x2), none]) ⟨rfl, ⟨rfl, ⟨rfl, trivial⟩⟩⟩ ?_
    exact ok_M_number_20 hf
def M_readTongue_74 (x1 : Int32) (x2 : Int32) (y0 : Int32) (s : sg) : Option sg :=
  (some (up s 10 6 y0)).bind fun s1 =>
  (midx ((nI 18) + x2) 52).bind fun j1 =>
  (some (up s1 12 j1 (x1 + (nI 1)))).bind fun s2 =>
  (M_number (nI 0) (nI 99) s2).bind fun v1 =>
  (midx ((nI 24) + x2) 52).bind fun j2 =>
  (some (up v1.2 12 j2 v1.1)).bind fun s3 =>
  some s3
set_option maxRecDepth 100000 in
theorem ok_M_readTongue_74 {x1 : Int32} {x2 : Int32} {y0 : Int32} {s : sg} {rv : sg} (hf : M_readTongue_74 x1 x2 y0 s = some rv) : mEnds [] 3 119 (74, [some (.ref 10), some (.int x1), some (.int x2)], [.int y0, .ref 10], hp shM s, 0, 0) (none, hp shM rv, 0, 0) := by
  unfold M_readTongue_74 at hf
  obtain ⟨s1, hs1, hf⟩ := ob hf
  refine t_pi (rfl : mfetch 119 74 = some (74, .putfield 100, 3, 5, 6, 0)) rfl rfl rfl rfl hs1 ?_
  refine mEnds.stp 1 (pc' := 78) (l' := [some (.ref 10), some (.int x1), some (.int x2)]) (st' := [.ref 10]) (fun _ => rfl) ?_
  refine t_gr (rfl : mfetch 119 78 = some (78, .getfield 13, 3, 5, 2, 0)) rfl rfl ?_
  refine mEnds.stp 6 (pc' := 88) (l' := [some (.ref 10), some (.int x1), some (.int x2)]) (st' := [.int (x1 + (nI 1)), .int ((nI 18) + x2), .ref 12]) (fun _ => rfl) ?_
  obtain ⟨j1, hj1, hf⟩ := ob hf
  obtain ⟨s2, hs2, hf⟩ := ob hf
  refine t_is (rfl : mfetch 119 88 = some (88, .iastore, 1, 0, 0, 0)) rfl rfl hj1 hs2 ?_
  refine mEnds.stp 1 (pc' := 90) (l' := [some (.ref 10), some (.int x1), some (.int x2)]) (st' := [.ref 10]) (fun _ => rfl) ?_
  refine t_gr (rfl : mfetch 119 90 = some (90, .getfield 13, 3, 5, 2, 0)) rfl rfl ?_
  refine mEnds.stp 6 (pc' := 101) (l' := [some (.ref 10), some (.int x1), some (.int x2)]) (st' := [.int (nI 99), .int (nI 0), .ref 10, .int ((nI 24) + x2), .ref 12]) (fun _ => rfl) ?_
  obtain ⟨v1, hv1, hf⟩ := ob hf
  refine t_cv (as := [.int (nI 0), .int (nI 99)]) (st := [.int ((nI 24) + x2), .ref 12]) (rfl : mfetch 119 101 = some (101, .invokevirtual 96, 3, 118, 0, 0)) rfl rfl rfl rfl rfl (ok_M_number hv1) ?_
  obtain ⟨j2, hj2, hf⟩ := ob hf
  obtain ⟨s3, hs3, hf⟩ := ob hf
  refine t_is (rfl : mfetch 119 104 = some (104, .iastore, 1, 0, 0, 0)) rfl rfl hj2 hs3 ?_
  cases hf; exact mEnds.rt (fun _ => rfl)
def M_readTongue_50 (x1 : Int32) (s : sg) : Option sg :=
  (M_number (nI 0) (nI 5) s).bind fun v1 =>
  if v1.2 10 6 < v1.1 then
    M_readTongue_74 x1 v1.1 v1.1 v1.2
  else
    M_readTongue_74 x1 v1.1 (v1.2 10 6) v1.2
set_option maxRecDepth 100000 in
theorem ok_M_readTongue_50 {x1 : Int32} {s : sg} {rv : sg} (hf : M_readTongue_50 x1 s = some rv) : mEnds [] 3 119 (50, [some (.ref 10), some (.int x1), none], [], hp shM s, 0, 0) (none, hp shM rv, 0, 0) := by
  unfold M_readTongue_50 at hf
  refine mEnds.stp 3 (pc' := 53) (l' := [some (.ref 10), some (.int x1), none]) (st' := [.int (nI 5), .int (nI 0), .ref 10]) (fun _ => rfl) ?_
  obtain ⟨v1, hv1, hf⟩ := ob hf
  refine t_cv (as := [.int (nI 0), .int (nI 5)]) (st := []) (rfl : mfetch 119 53 = some (53, .invokevirtual 96, 3, 118, 0, 0)) rfl rfl rfl rfl rfl (ok_M_number hv1) ?_
  refine mEnds.stp 4 (pc' := 60) (l' := [some (.ref 10), some (.int x1), some (.int v1.1)]) (st' := [.ref 10, .int v1.1, .ref 10]) (fun _ => rfl) ?_
  refine t_gi (rfl : mfetch 119 60 = some (60, .getfield 100, 3, 5, 6, 0)) rfl rfl ?_
  by_cases hc1 : v1.2 10 6 < v1.1
  · rw [if_pos hc1] at hf
    refine t_cF (rfl : mfetch 119 63 = some (63, .if_icmp .le 7, 3, 0, 0, 0)) (k_le' hc1) ?_
    refine mEnds.stp 2 (pc' := 74) (l' := [some (.ref 10), some (.int x1), some (.int v1.1)]) (st' := [.int v1.1, .ref 10]) (fun _ => rfl) ?_
    refine mEnds.cut (l := [some (.ref 10), some (.int x1), some (.int v1.1)]) ⟨rfl, ⟨rfl, ⟨rfl, trivial⟩⟩⟩ ?_
    exact ok_M_readTongue_74 hf
  · rw [if_neg hc1] at hf
    refine t_cT (t := 70) (rfl : mfetch 119 63 = some (63, .if_icmp .le 7, 3, 0, 0, 0)) rfl (k_le hc1) ?_
    refine mEnds.stp 1 (pc' := 71) (l' := [some (.ref 10), some (.int x1), some (.int v1.1)]) (st' := [.ref 10, .ref 10]) (fun _ => rfl) ?_
    refine t_gi (rfl : mfetch 119 71 = some (71, .getfield 100, 3, 5, 6, 0)) rfl rfl ?_
    refine mEnds.cut (l := [some (.ref 10), some (.int x1), some (.int v1.1)]) ⟨rfl, ⟨rfl, ⟨rfl, trivial⟩⟩⟩ ?_
    exact ok_M_readTongue_74 hf
def M_readTongue (x1 : Int32) (s : sg) : Option sg :=
  if s 10 10 = 0 then
    if s 10 14 = nI 2 then
      (M_in ((s 10 15).toInt64) (0 : Int64) (5 : Int64) s).bind fun v1 =>
      if v1 = 0 then
        M_readTongue_50 x1 s
      else
        (midx ((nI 18) + (s 10 15)) 52).bind fun j1 =>
        if 0 < s 12 j1 then
          (M_fails (nI 4) s).bind fun s1 =>
          M_readTongue_50 x1 s1
        else
          M_readTongue_50 x1 s
    else
      M_readTongue_50 x1 s
  else
    M_readTongue_50 x1 s
set_option maxRecDepth 100000 in
theorem ok_M_readTongue {x1 : Int32} {s : sg} {rv : sg} (hf : M_readTongue x1 s = some rv) : mEnds [] 3 119 (0, [some (.ref 10), some (.int x1), none], [], hp shM s, 0, 0) (none, hp shM rv, 0, 0) := by
  unfold M_readTongue at hf
  refine mEnds.stp 1 (pc' := 1) (l' := [some (.ref 10), some (.int x1), none]) (st' := [.ref 10]) (fun _ => rfl) ?_
  refine t_gi (rfl : mfetch 119 1 = some (1, .getfield 57, 3, 5, 10, 0)) rfl rfl ?_
  by_cases hc1 : s 10 10 = 0
  · rw [if_pos hc1] at hf
    refine t_jF (rfl : mfetch 119 4 = some (4, .ifCond .ne 46, 3, 0, 0, 0)) (k_ne' hc1) ?_
    refine mEnds.stp 1 (pc' := 8) (l' := [some (.ref 10), some (.int x1), none]) (st' := [.ref 10]) (fun _ => rfl) ?_
    refine t_gi (rfl : mfetch 119 8 = some (8, .getfield 66, 3, 5, 14, 0)) rfl rfl ?_
    refine mEnds.stp 1 (pc' := 12) (l' := [some (.ref 10), some (.int x1), none]) (st' := [.int (nI 2), .int (s 10 14)]) (fun _ => rfl) ?_
    by_cases hc2 : s 10 14 = nI 2
    · rw [if_pos hc2] at hf
      refine t_cF (rfl : mfetch 119 12 = some (12, .if_icmp .ne 38, 3, 0, 0, 0)) (k_ne' hc2) ?_
      refine mEnds.stp 1 (pc' := 16) (l' := [some (.ref 10), some (.int x1), none]) (st' := [.ref 10]) (fun _ => rfl) ?_
      refine t_gi (rfl : mfetch 119 16 = some (16, .getfield 76, 3, 5, 15, 0)) rfl rfl ?_
      refine mEnds.stp 3 (pc' := 24) (l' := [some (.ref 10), some (.int x1), none]) (st' := [.long (5 : Int64), .long (0 : Int64), .long ((s 10 15).toInt64)]) (fun _ => rfl) ?_
      obtain ⟨v1, hv1, hf⟩ := ob hf
      refine t_cs (as := [.long ((s 10 15).toInt64), .long (0 : Int64), .long (5 : Int64)]) (st := []) (Or.inl rfl) (rfl : mfetch 119 24 = some (24, .invokestatic 49, 3, 111, 0, 0)) rfl rfl rfl ((ok_M_in hv1).deep 2) ?_
      by_cases hc3 : v1 = 0
      · rw [if_pos hc3] at hf
        refine t_jT (t := 50) (rfl : mfetch 119 27 = some (27, .ifCond .eq 23, 3, 0, 0, 0)) rfl (k_eq hc3) ?_
        refine mEnds.cut (l := [some (.ref 10), some (.int x1), none]) ⟨rfl, ⟨rfl, trivial⟩⟩ ?_
        exact ok_M_readTongue_50 hf
      · rw [if_neg hc3] at hf
        refine t_jF (rfl : mfetch 119 27 = some (27, .ifCond .eq 23, 3, 0, 0, 0)) (k_eq' hc3) ?_
        refine mEnds.stp 1 (pc' := 31) (l' := [some (.ref 10), some (.int x1), none]) (st' := [.ref 10]) (fun _ => rfl) ?_
        refine t_gr (rfl : mfetch 119 31 = some (31, .getfield 13, 3, 5, 2, 0)) rfl rfl ?_
        refine mEnds.stp 2 (pc' := 37) (l' := [some (.ref 10), some (.int x1), none]) (st' := [.ref 10, .int (nI 18), .ref 12]) (fun _ => rfl) ?_
        refine t_gi (rfl : mfetch 119 37 = some (37, .getfield 76, 3, 5, 15, 0)) rfl rfl ?_
        refine mEnds.stp 1 (pc' := 41) (l' := [some (.ref 10), some (.int x1), none]) (st' := [.int ((nI 18) + (s 10 15)), .ref 12]) (fun _ => rfl) ?_
        obtain ⟨j1, hj1, hf⟩ := ob hf
        refine t_ia (rfl : mfetch 119 41 = some (41, .iaload, 1, 0, 0, 0)) rfl rfl hj1 ?_
        by_cases hc4 : 0 < s 12 j1
        · rw [if_pos hc4] at hf
          refine t_jF (rfl : mfetch 119 42 = some (42, .ifCond .le 8, 3, 0, 0, 0)) (k_le' hc4) ?_
          refine mEnds.stp 2 (pc' := 47) (l' := [some (.ref 10), some (.int x1), none]) (st' := [.int (nI 4), .ref 10]) (fun _ => rfl) ?_
          obtain ⟨s1, hs1, hf⟩ := ob hf
          refine t_cv (as := [.int (nI 4)]) (st := []) (rfl : mfetch 119 47 = some (47, .invokevirtual 87, 3, 115, 0, 0)) rfl rfl rfl rfl rfl ((ok_M_fails hs1).deep 2) ?_
          refine mEnds.cut (l := [some (.ref 10), some (.int x1), none]) ⟨rfl, ⟨rfl, trivial⟩⟩ ?_
          exact ok_M_readTongue_50 hf
        · rw [if_neg hc4] at hf
          refine t_jT (t := 50) (rfl : mfetch 119 42 = some (42, .ifCond .le 8, 3, 0, 0, 0)) rfl (k_le hc4) ?_
          refine mEnds.cut (l := [some (.ref 10), some (.int x1), none]) ⟨rfl, ⟨rfl, trivial⟩⟩ ?_
          exact ok_M_readTongue_50 hf
    · rw [if_neg hc2] at hf
      refine t_cT (t := 50) (rfl : mfetch 119 12 = some (12, .if_icmp .ne 38, 3, 0, 0, 0)) rfl (k_ne hc2) ?_
      refine mEnds.cut (l := [some (.ref 10), some (.int x1), none]) ⟨rfl, ⟨rfl, trivial⟩⟩ ?_
      exact ok_M_readTongue_50 hf
  · rw [if_neg hc1] at hf
    refine t_jT (t := 50) (rfl : mfetch 119 4 = some (4, .ifCond .ne 46, 3, 0, 0, 0)) rfl (k_ne hc1) ?_
    refine mEnds.cut (l := [some (.ref 10), some (.int x1), none]) ⟨rfl, ⟨rfl, trivial⟩⟩ ?_
    exact ok_M_readTongue_50 hf
def M_readWall_78 (x1 : Int32) (y0 : Int32) (s : sg) : Option sg :=
  (some (up s 10 6 y0)).bind fun s1 =>
  (some (up s1 10 4 ((s1 10 4) ||| ((nI 1) <<< (x1 &&& 31))))).bind fun s2 =>
  (M_number (nI 0) (nI 9) s2).bind fun v1 =>
  (midx ((nI 36) + x1) 52).bind fun j1 =>
  (some (up v1.2 12 j1 (v1.1 - (nI 2)))).bind fun s3 =>
  some s3
set_option maxRecDepth 100000 in
theorem ok_M_readWall_78 {x1 : Int32} {y0 : Int32} {s : sg} {rv : sg} (hf : M_readWall_78 x1 y0 s = some rv) : mEnds [] 3 120 (78, [some (.ref 10), some (.int x1)], [.int y0, .ref 10], hp shM s, 0, 0) (none, hp shM rv, 0, 0) := by
  unfold M_readWall_78 at hf
  obtain ⟨s1, hs1, hf⟩ := ob hf
  refine t_pi (rfl : mfetch 120 78 = some (78, .putfield 100, 3, 5, 6, 0)) rfl rfl rfl rfl hs1 ?_
  refine mEnds.stp 2 (pc' := 83) (l' := [some (.ref 10), some (.int x1)]) (st' := [.ref 10, .ref 10]) (fun _ => rfl) ?_
  refine t_gi (rfl : mfetch 120 83 = some (83, .getfield 105, 3, 5, 4, 0)) rfl rfl ?_
  refine mEnds.stp 4 (pc' := 90) (l' := [some (.ref 10), some (.int x1)]) (st' := [.int ((s1 10 4) ||| ((nI 1) <<< (x1 &&& 31))), .ref 10]) (fun _ => rfl) ?_
  obtain ⟨s2, hs2, hf⟩ := ob hf
  refine t_pi (rfl : mfetch 120 90 = some (90, .putfield 105, 3, 5, 4, 0)) rfl rfl rfl rfl hs2 ?_
  refine mEnds.stp 1 (pc' := 94) (l' := [some (.ref 10), some (.int x1)]) (st' := [.ref 10]) (fun _ => rfl) ?_
  refine t_gr (rfl : mfetch 120 94 = some (94, .getfield 13, 3, 5, 2, 0)) rfl rfl ?_
  refine mEnds.stp 6 (pc' := 105) (l' := [some (.ref 10), some (.int x1)]) (st' := [.int (nI 9), .int (nI 0), .ref 10, .int ((nI 36) + x1), .ref 12]) (fun _ => rfl) ?_
  obtain ⟨v1, hv1, hf⟩ := ob hf
  refine t_cv (as := [.int (nI 0), .int (nI 9)]) (st := [.int ((nI 36) + x1), .ref 12]) (rfl : mfetch 120 105 = some (105, .invokevirtual 96, 3, 118, 0, 0)) rfl rfl rfl rfl rfl (ok_M_number hv1) ?_
  refine mEnds.stp 2 (pc' := 110) (l' := [some (.ref 10), some (.int x1)]) (st' := [.int (v1.1 - (nI 2)), .int ((nI 36) + x1), .ref 12]) (fun _ => rfl) ?_
  obtain ⟨j1, hj1, hf⟩ := ob hf
  obtain ⟨s3, hs3, hf⟩ := ob hf
  refine t_is (rfl : mfetch 120 110 = some (110, .iastore, 1, 0, 0, 0)) rfl rfl hj1 hs3 ?_
  cases hf; exact mEnds.rt (fun _ => rfl)
def M_readWall_50 (s : sg) : Option sg :=
  (M_number (nI 0) (nI 4) s).bind fun v1 =>
  if v1.2 10 6 < v1.1 + (nI 1) then
    M_readWall_78 v1.1 (v1.1 + (nI 1)) v1.2
  else
    M_readWall_78 v1.1 (v1.2 10 6) v1.2
set_option maxRecDepth 100000 in
theorem ok_M_readWall_50 {s : sg} {rv : sg} (hf : M_readWall_50 s = some rv) : mEnds [] 3 120 (50, [some (.ref 10), none], [], hp shM s, 0, 0) (none, hp shM rv, 0, 0) := by
  unfold M_readWall_50 at hf
  refine mEnds.stp 3 (pc' := 53) (l' := [some (.ref 10), none]) (st' := [.int (nI 4), .int (nI 0), .ref 10]) (fun _ => rfl) ?_
  obtain ⟨v1, hv1, hf⟩ := ob hf
  refine t_cv (as := [.int (nI 0), .int (nI 4)]) (st := []) (rfl : mfetch 120 53 = some (53, .invokevirtual 96, 3, 118, 0, 0)) rfl rfl rfl rfl rfl (ok_M_number hv1) ?_
  refine mEnds.stp 6 (pc' := 62) (l' := [some (.ref 10), some (.int v1.1)]) (st' := [.ref 10, .int (v1.1 + (nI 1)), .ref 10]) (fun _ => rfl) ?_
  refine t_gi (rfl : mfetch 120 62 = some (62, .getfield 100, 3, 5, 6, 0)) rfl rfl ?_
  by_cases hc1 : v1.2 10 6 < v1.1 + (nI 1)
  · rw [if_pos hc1] at hf
    refine t_cF (rfl : mfetch 120 65 = some (65, .if_icmp .le 9, 3, 0, 0, 0)) (k_le' hc1) ?_
    refine mEnds.stp 4 (pc' := 78) (l' := [some (.ref 10), some (.int v1.1)]) (st' := [.int (v1.1 + (nI 1)), .ref 10]) (fun _ => rfl) ?_
    refine mEnds.cut (l := [some (.ref 10), some (.int v1.1)]) ⟨rfl, ⟨rfl, trivial⟩⟩ ?_
    exact ok_M_readWall_78 hf
  · rw [if_neg hc1] at hf
    refine t_cT (t := 74) (rfl : mfetch 120 65 = some (65, .if_icmp .le 9, 3, 0, 0, 0)) rfl (k_le hc1) ?_
    refine mEnds.stp 1 (pc' := 75) (l' := [some (.ref 10), some (.int v1.1)]) (st' := [.ref 10, .ref 10]) (fun _ => rfl) ?_
    refine t_gi (rfl : mfetch 120 75 = some (75, .getfield 100, 3, 5, 6, 0)) rfl rfl ?_
    refine mEnds.cut (l := [some (.ref 10), some (.int v1.1)]) ⟨rfl, ⟨rfl, trivial⟩⟩ ?_
    exact ok_M_readWall_78 hf
def M_readWall (s : sg) : Option sg :=
  if s 10 10 = 0 then
    if s 10 14 = nI 2 then
      (M_in ((s 10 15).toInt64) (0 : Int64) (4 : Int64) s).bind fun v1 =>
      if v1 = 0 then
        M_readWall_50 s
      else
        if ((s 10 4) >>> ((s 10 15) &&& 31)) &&& (nI 1) = nI 1 then
          (M_fails (nI 4) s).bind fun s1 =>
          M_readWall_50 s1
        else
          M_readWall_50 s
    else
      M_readWall_50 s
  else
    M_readWall_50 s
set_option maxRecDepth 100000 in
theorem ok_M_readWall {s : sg} {rv : sg} (hf : M_readWall s = some rv) : mEnds [] 3 120 (0, [some (.ref 10), none], [], hp shM s, 0, 0) (none, hp shM rv, 0, 0) := by
  unfold M_readWall at hf
  refine mEnds.stp 1 (pc' := 1) (l' := [some (.ref 10), none]) (st' := [.ref 10]) (fun _ => rfl) ?_
  refine t_gi (rfl : mfetch 120 1 = some (1, .getfield 57, 3, 5, 10, 0)) rfl rfl ?_
  by_cases hc1 : s 10 10 = 0
  · rw [if_pos hc1] at hf
    refine t_jF (rfl : mfetch 120 4 = some (4, .ifCond .ne 46, 3, 0, 0, 0)) (k_ne' hc1) ?_
    refine mEnds.stp 1 (pc' := 8) (l' := [some (.ref 10), none]) (st' := [.ref 10]) (fun _ => rfl) ?_
    refine t_gi (rfl : mfetch 120 8 = some (8, .getfield 66, 3, 5, 14, 0)) rfl rfl ?_
    refine mEnds.stp 1 (pc' := 12) (l' := [some (.ref 10), none]) (st' := [.int (nI 2), .int (s 10 14)]) (fun _ => rfl) ?_
    by_cases hc2 : s 10 14 = nI 2
    · rw [if_pos hc2] at hf
      refine t_cF (rfl : mfetch 120 12 = some (12, .if_icmp .ne 38, 3, 0, 0, 0)) (k_ne' hc2) ?_
      refine mEnds.stp 1 (pc' := 16) (l' := [some (.ref 10), none]) (st' := [.ref 10]) (fun _ => rfl) ?_
      refine t_gi (rfl : mfetch 120 16 = some (16, .getfield 76, 3, 5, 15, 0)) rfl rfl ?_
      refine mEnds.stp 3 (pc' := 24) (l' := [some (.ref 10), none]) (st' := [.long (4 : Int64), .long (0 : Int64), .long ((s 10 15).toInt64)]) (fun _ => rfl) ?_
      obtain ⟨v1, hv1, hf⟩ := ob hf
      refine t_cs (as := [.long ((s 10 15).toInt64), .long (0 : Int64), .long (4 : Int64)]) (st := []) (Or.inl rfl) (rfl : mfetch 120 24 = some (24, .invokestatic 49, 3, 111, 0, 0)) rfl rfl rfl ((ok_M_in hv1).deep 2) ?_
      by_cases hc3 : v1 = 0
      · rw [if_pos hc3] at hf
        refine t_jT (t := 50) (rfl : mfetch 120 27 = some (27, .ifCond .eq 23, 3, 0, 0, 0)) rfl (k_eq hc3) ?_
        refine mEnds.cut (l := [some (.ref 10), none]) ⟨rfl, trivial⟩ ?_
        exact ok_M_readWall_50 hf
      · rw [if_neg hc3] at hf
        refine t_jF (rfl : mfetch 120 27 = some (27, .ifCond .eq 23, 3, 0, 0, 0)) (k_eq' hc3) ?_
        refine mEnds.stp 1 (pc' := 31) (l' := [some (.ref 10), none]) (st' := [.ref 10]) (fun _ => rfl) ?_
        refine t_gi (rfl : mfetch 120 31 = some (31, .getfield 105, 3, 5, 4, 0)) rfl rfl ?_
        refine mEnds.stp 1 (pc' := 35) (l' := [some (.ref 10), none]) (st' := [.ref 10, .int (s 10 4)]) (fun _ => rfl) ?_
        refine t_gi (rfl : mfetch 120 35 = some (35, .getfield 76, 3, 5, 15, 0)) rfl rfl ?_
        refine mEnds.stp 4 (pc' := 42) (l' := [some (.ref 10), none]) (st' := [.int (nI 1), .int (((s 10 4) >>> ((s 10 15) &&& 31)) &&& (nI 1))]) (fun _ => rfl) ?_
        by_cases hc4 : ((s 10 4) >>> ((s 10 15) &&& 31)) &&& (nI 1) = nI 1
        · rw [if_pos hc4] at hf
          refine t_cF (rfl : mfetch 120 42 = some (42, .if_icmp .ne 8, 3, 0, 0, 0)) (k_ne' hc4) ?_
          refine mEnds.stp 2 (pc' := 47) (l' := [some (.ref 10), none]) (st' := [.int (nI 4), .ref 10]) (fun _ => rfl) ?_
          obtain ⟨s1, hs1, hf⟩ := ob hf
          refine t_cv (as := [.int (nI 4)]) (st := []) (rfl : mfetch 120 47 = some (47, .invokevirtual 87, 3, 115, 0, 0)) rfl rfl rfl rfl rfl ((ok_M_fails hs1).deep 2) ?_
          refine mEnds.cut (l := [some (.ref 10), none]) ⟨rfl, trivial⟩ ?_
          exact ok_M_readWall_50 hf
        · rw [if_neg hc4] at hf
          refine t_cT (t := 50) (rfl : mfetch 120 42 = some (42, .if_icmp .ne 8, 3, 0, 0, 0)) rfl (k_ne hc4) ?_
          refine mEnds.cut (l := [some (.ref 10), none]) ⟨rfl, trivial⟩ ?_
          exact ok_M_readWall_50 hf
    · rw [if_neg hc2] at hf
      refine t_cT (t := 50) (rfl : mfetch 120 12 = some (12, .if_icmp .ne 38, 3, 0, 0, 0)) rfl (k_ne hc2) ?_
      refine mEnds.cut (l := [some (.ref 10), none]) ⟨rfl, trivial⟩ ?_
      exact ok_M_readWall_50 hf
  · rw [if_neg hc1] at hf
    refine t_jT (t := 50) (rfl : mfetch 120 4 = some (4, .ifCond .ne 46, 3, 0, 0, 0)) rfl (k_ne hc1) ?_
    refine mEnds.cut (l := [some (.ref 10), none]) ⟨rfl, trivial⟩ ?_
    exact ok_M_readWall_50 hf
