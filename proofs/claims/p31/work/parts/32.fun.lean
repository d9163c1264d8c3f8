section Q31a
def M_in (x0 : Int64) (x2 : Int64) (x4 : Int64) (s : sg) : Option Int32 :=
  if x0 < x2 then
    some (nI 0)
  else
    if x4 < x0 then
      some (nI 0)
    else
      some (nI 1)
set_option maxRecDepth 100000 in
theorem ok_M_in {x0 : Int64} {x2 : Int64} {x4 : Int64} {s : sg} {rv : Int32} (hf : M_in x0 x2 x4 s = some rv) : mEnds [] 0 111 (0, [some (.long x0), none, some (.long x2), none, some (.long x4), none], [], hp shM s, 0, 0) (some (.int rv), hp shM s, 0, 0) := by
  unfold M_in at hf
  refine mEnds.stp 2 (pc' := 2) (l' := [some (.long x0), none, some (.long x2), none, some (.long x4), none]) (st' := [.long x2, .long x0]) (fun _ => rfl) ?_
  refine mEnds.stp 1 (pc' := 3) (l' := [some (.long x0), none, some (.long x2), none, some (.long x4), none]) (st' := [.int (lg_cmp x0 x2)]) (fun _ => rfl) ?_
  by_cases hc1 : x0 < x2
  · rw [if_pos hc1] at hf
    refine t_jT (t := 17) (rfl : mfetch 111 3 = some (3, .ifCond .lt 14, 3, 0, 0, 0)) rfl (l_lt hc1) ?_
    refine mEnds.stp 1 (pc' := 18) (l' := [some (.long x0), none, some (.long x2), none, some (.long x4), none]) (st' := [.int (nI 0)]) (fun _ => rfl) ?_
    cases hf; exact mEnds.rt (fun _ => rfl)
  · rw [if_neg hc1] at hf
    refine t_jF (rfl : mfetch 111 3 = some (3, .ifCond .lt 14, 3, 0, 0, 0)) (l_lt' hc1) ?_
    refine mEnds.stp 2 (pc' := 9) (l' := [some (.long x0), none, some (.long x2), none, some (.long x4), none]) (st' := [.long x4, .long x0]) (fun _ => rfl) ?_
    refine mEnds.stp 1 (pc' := 10) (l' := [some (.long x0), none, some (.long x2), none, some (.long x4), none]) (st' := [.int (lg_cmp x0 x4)]) (fun _ => rfl) ?_
    by_cases hc2 : x4 < x0
    · rw [if_pos hc2] at hf
      refine t_jT (t := 17) (rfl : mfetch 111 10 = some (10, .ifCond .gt 7, 3, 0, 0, 0)) rfl (l_gt hc2) ?_
      refine mEnds.stp 1 (pc' := 18) (l' := [some (.long x0), none, some (.long x2), none, some (.long x4), none]) (st' := [.int (nI 0)]) (fun _ => rfl) ?_
      cases hf; exact mEnds.rt (fun _ => rfl)
    · rw [if_neg hc2] at hf
      refine t_jF (rfl : mfetch 111 10 = some (10, .ifCond .gt 7, 3, 0, 0, 0)) (l_gt' hc2) ?_
      refine mEnds.stp 2 (pc' := 18) (l' := [some (.long x0), none, some (.long x2), none, some (.long x4), none]) (st' := [.int (nI 1)]) (fun _ => rfl) ?_
      cases hf; exact mEnds.rt (fun _ => rfl)
def M_feed (x1 : Int32) (s : sg) : Option (Int32 × sg) :=
  (M_in x1.toInt64 (0 : Int64) (127 : Int64) s).bind fun v1 =>
  if v1 = 0 then
    some ((-1), s)
  else
    if s 10 8 = nI 160 then
      some ((-3), s)
    else
      (midx (s 10 8) 160).bind fun j1 =>
      (some (up s 13 j1 x1)).bind fun s1 =>
      (some (up s1 10 8 ((s1 10 8) + (nI 1)))).bind fun s2 =>
      some (s2 10 8, s2)
set_option maxRecDepth 100000 in
theorem ok_M_feed {x1 : Int32} {s : sg} {rv : (Int32 × sg)} (hf : M_feed x1 s = some rv) : mEnds [] 1 112 (0, [some (.ref 10), some (.int x1)], [], hp shM s, 0, 0) (some (.int rv.1), hp shM rv.2, 0, 0) := by
  unfold M_feed at hf
  refine mEnds.stp 4 (pc' := 6) (l' := [some (.ref 10), some (.int x1)]) (st' := [.long (127 : Int64), .long (0 : Int64), .long x1.toInt64]) (fun _ => rfl) ?_
  obtain ⟨v1, hv1, hf⟩ := ob hf
  refine t_cs (as := [.long x1.toInt64, .long (0 : Int64), .long (127 : Int64)]) (st := []) (Or.inl rfl) (rfl : mfetch 112 6 = some (6, .invokestatic 49, 3, 111, 0, 0)) rfl rfl rfl (ok_M_in hv1) ?_
  by_cases hc1 : v1 = 0
  · rw [if_pos hc1] at hf
    refine t_jF (rfl : mfetch 112 9 = some (9, .ifCond .ne 5, 3, 0, 0, 0)) (k_ne' hc1) ?_
    refine mEnds.stp 1 (pc' := 13) (l' := [some (.ref 10), some (.int x1)]) (st' := [.int (-1)]) (fun _ => rfl) ?_
    exact mEnds.rti (Option.some.inj hf) (fun _ => rfl)
  · rw [if_neg hc1] at hf
    refine t_jT (t := 14) (rfl : mfetch 112 9 = some (9, .ifCond .ne 5, 3, 0, 0, 0)) rfl (k_ne hc1) ?_
    refine mEnds.stp 1 (pc' := 15) (l' := [some (.ref 10), some (.int x1)]) (st' := [.ref 10]) (fun _ => rfl) ?_
    refine t_gi (rfl : mfetch 112 15 = some (15, .getfield 53, 3, 5, 8, 0)) rfl rfl ?_
    refine mEnds.stp 1 (pc' := 21) (l' := [some (.ref 10), some (.int x1)]) (st' := [.int (nI 160), .int (s 10 8)]) (fun _ => rfl) ?_
    by_cases hc2 : s 10 8 = nI 160
    · rw [if_pos hc2] at hf
      refine t_cF (rfl : mfetch 112 21 = some (21, .if_icmp .ne 6, 3, 0, 0, 0)) (k_ne' hc2) ?_
      refine mEnds.stp 1 (pc' := 26) (l' := [some (.ref 10), some (.int x1)]) (st' := [.int (-3)]) (fun _ => rfl) ?_
      exact mEnds.rti (Option.some.inj hf) (fun _ => rfl)
    · rw [if_neg hc2] at hf
      refine t_cT (t := 27) (rfl : mfetch 112 21 = some (21, .if_icmp .ne 6, 3, 0, 0, 0)) rfl (k_ne hc2) ?_
      refine mEnds.stp 1 (pc' := 28) (l' := [some (.ref 10), some (.int x1)]) (st' := [.ref 10]) (fun _ => rfl) ?_
      refine t_gr (rfl : mfetch 112 28 = some (28, .getfield 16, 3, 5, 7, 0)) rfl rfl ?_
      refine mEnds.stp 1 (pc' := 32) (l' := [some (.ref 10), some (.int x1)]) (st' := [.ref 10, .ref 13]) (fun _ => rfl) ?_
      refine t_gi (rfl : mfetch 112 32 = some (32, .getfield 53, 3, 5, 8, 0)) rfl rfl ?_
      refine mEnds.stp 1 (pc' := 36) (l' := [some (.ref 10), some (.int x1)]) (st' := [.int x1, .int (s 10 8), .ref 13]) (fun _ => rfl) ?_
      obtain ⟨j1, hj1, hf⟩ := ob hf
      obtain ⟨s1, hs1, hf⟩ := ob hf
      refine t_is (rfl : mfetch 112 36 = some (36, .iastore, 1, 0, 0, 0)) rfl rfl hj1 hs1 ?_
      refine mEnds.stp 2 (pc' := 39) (l' := [some (.ref 10), some (.int x1)]) (st' := [.ref 10, .ref 10]) (fun _ => rfl) ?_
      refine t_gi (rfl : mfetch 112 39 = some (39, .getfield 53, 3, 5, 8, 0)) rfl rfl ?_
      refine mEnds.stp 2 (pc' := 44) (l' := [some (.ref 10), some (.int x1)]) (st' := [.int ((s1 10 8) + (nI 1)), .ref 10]) (fun _ => rfl) ?_
      obtain ⟨s2, hs2, hf⟩ := ob hf
      refine t_pi (rfl : mfetch 112 44 = some (44, .putfield 53, 3, 5, 8, 0)) rfl rfl rfl rfl hs2 ?_
      refine mEnds.stp 1 (pc' := 48) (l' := [some (.ref 10), some (.int x1)]) (st' := [.ref 10]) (fun _ => rfl) ?_
      refine t_gi (rfl : mfetch 112 48 = some (48, .getfield 53, 3, 5, 8, 0)) rfl rfl ?_
      exact mEnds.rti (Option.some.inj hf) (fun _ => rfl)
def M_end (x1 : Int32) (s : sg) : Option (Int32 × sg) :=
  (M_in x1.toInt64 (0 : Int64) ((s 10 8).toInt64) s).bind fun v1 =>
  if v1 = 0 then
    some ((-1), s)
  else
    (some (up s 10 8 x1)).bind fun s1 =>
    some (s 10 8, s1)
set_option maxRecDepth 100000 in
theorem ok_M_end {x1 : Int32} {s : sg} {rv : (Int32 × sg)} (hf : M_end x1 s = some rv) : mEnds [] 1 113 (0, [some (.ref 10), some (.int x1), none], [], hp shM s, 0, 0) (some (.int rv.1), hp shM rv.2, 0, 0) := by
  unfold M_end at hf
  refine mEnds.stp 4 (pc' := 4) (l' := [some (.ref 10), some (.int x1), none]) (st' := [.ref 10, .long (0 : Int64), .long x1.toInt64]) (fun _ => rfl) ?_
  refine t_gi (rfl : mfetch 113 4 = some (4, .getfield 53, 3, 5, 8, 0)) rfl rfl ?_
  refine mEnds.stp 1 (pc' := 8) (l' := [some (.ref 10), some (.int x1), none]) (st' := [.long ((s 10 8).toInt64), .long (0 : Int64), .long x1.toInt64]) (fun _ => rfl) ?_
  obtain ⟨v1, hv1, hf⟩ := ob hf
  refine t_cs (as := [.long x1.toInt64, .long (0 : Int64), .long ((s 10 8).toInt64)]) (st := []) (Or.inl rfl) (rfl : mfetch 113 8 = some (8, .invokestatic 49, 3, 111, 0, 0)) rfl rfl rfl (ok_M_in hv1) ?_
  by_cases hc1 : v1 = 0
  · rw [if_pos hc1] at hf
    refine t_jF (rfl : mfetch 113 11 = some (11, .ifCond .ne 5, 3, 0, 0, 0)) (k_ne' hc1) ?_
    refine mEnds.stp 1 (pc' := 15) (l' := [some (.ref 10), some (.int x1), none]) (st' := [.int (-1)]) (fun _ => rfl) ?_
    exact mEnds.rti (Option.some.inj hf) (fun _ => rfl)
  · rw [if_neg hc1] at hf
    refine t_jT (t := 16) (rfl : mfetch 113 11 = some (11, .ifCond .ne 5, 3, 0, 0, 0)) rfl (k_ne hc1) ?_
    refine mEnds.stp 1 (pc' := 17) (l' := [some (.ref 10), some (.int x1), none]) (st' := [.ref 10]) (fun _ => rfl) ?_
    refine t_gi (rfl : mfetch 113 17 = some (17, .getfield 53, 3, 5, 8, 0)) rfl rfl ?_
    refine mEnds.stp 3 (pc' := 23) (l' := [some (.ref 10), some (.int x1), some (.int (s 10 8))]) (st' := [.int x1, .ref 10]) (fun _ => rfl) ?_
    obtain ⟨s1, hs1, hf⟩ := ob hf
    refine t_pi (rfl : mfetch 113 23 = some (23, .putfield 53, 3, 5, 8, 0)) rfl rfl rfl rfl hs1 ?_
    refine mEnds.stp 1 (pc' := 27) (l' := [some (.ref 10), some (.int x1), some (.int (s 10 8))]) (st' := [.int (s 10 8)]) (fun _ => rfl) ?_
    exact mEnds.rti (Option.some.inj hf) (fun _ => rfl)
def M_byteAt (x1 : Int32) (s : sg) : Option Int32 :=
  if x1 < s 10 8 then
    (midx x1 160).bind fun j1 =>
    some (s 13 j1)
  else
    some (-4)
set_option maxRecDepth 100000 in
theorem ok_M_byteAt {x1 : Int32} {s : sg} {rv : Int32} (hf : M_byteAt x1 s = some rv) : mEnds [] 0 114 (0, [some (.ref 10), some (.int x1)], [], hp shM s, 0, 0) (some (.int rv), hp shM s, 0, 0) := by
  unfold M_byteAt at hf
  refine mEnds.stp 2 (pc' := 2) (l' := [some (.ref 10), some (.int x1)]) (st' := [.ref 10, .int x1]) (fun _ => rfl) ?_
  refine t_gi (rfl : mfetch 114 2 = some (2, .getfield 53, 3, 5, 8, 0)) rfl rfl ?_
  by_cases hc1 : x1 < s 10 8
  · rw [if_pos hc1] at hf
    refine t_cF (rfl : mfetch 114 5 = some (5, .if_icmp .ge 12, 3, 0, 0, 0)) (k_ge' hc1) ?_
    refine mEnds.stp 1 (pc' := 9) (l' := [some (.ref 10), some (.int x1)]) (st' := [.ref 10]) (fun _ => rfl) ?_
    refine t_gr (rfl : mfetch 114 9 = some (9, .getfield 16, 3, 5, 7, 0)) rfl rfl ?_
    refine mEnds.stp 1 (pc' := 13) (l' := [some (.ref 10), some (.int x1)]) (st' := [.int x1, .ref 13]) (fun _ => rfl) ?_
    obtain ⟨j1, hj1, hf⟩ := ob hf
    refine t_ia (rfl : mfetch 114 13 = some (13, .iaload, 1, 0, 0, 0)) rfl rfl hj1 ?_
    refine mEnds.stp 1 (pc' := 19) (l' := [some (.ref 10), some (.int x1)]) (st' := [.int (s 13 j1)]) (fun _ => rfl) ?_
    cases hf; exact mEnds.rt (fun _ => rfl)
  · rw [if_neg hc1] at hf
    refine t_cT (t := 17) (rfl : mfetch 114 5 = some (5, .if_icmp .ge 12, 3, 0, 0, 0)) rfl (k_ge hc1) ?_
    refine mEnds.stp 1 (pc' := 19) (l' := [some (.ref 10), some (.int x1)]) (st' := [.int (-4)]) (fun _ => rfl) ?_
    cases hf; exact mEnds.rt (fun _ => rfl)
def M_fails (x1 : Int32) (s : sg) : Option sg :=
  if s 10 10 = 0 then
    (some (up s 10 10 x1)).bind fun s1 =>
    (some (up s1 10 11 (s1 10 13))).bind fun s2 =>
    some s2
  else
    some s
set_option maxRecDepth 100000 in
theorem ok_M_fails {x1 : Int32} {s : sg} {rv : sg} (hf : M_fails x1 s = some rv) : mEnds [] 0 115 (0, [some (.ref 10), some (.int x1)], [], hp shM s, 0, 0) (none, hp shM rv, 0, 0) := by
  unfold M_fails at hf
  refine mEnds.stp 1 (pc' := 1) (l' := [some (.ref 10), some (.int x1)]) (st' := [.ref 10]) (fun _ => rfl) ?_
  refine t_gi (rfl : mfetch 115 1 = some (1, .getfield 57, 3, 5, 10, 0)) rfl rfl ?_
  by_cases hc1 : s 10 10 = 0
  · rw [if_pos hc1] at hf
    refine t_jF (rfl : mfetch 115 4 = some (4, .ifCond .ne 16, 3, 0, 0, 0)) (k_ne' hc1) ?_
    refine mEnds.stp 2 (pc' := 9) (l' := [some (.ref 10), some (.int x1)]) (st' := [.int x1, .ref 10]) (fun _ => rfl) ?_
    obtain ⟨s1, hs1, hf⟩ := ob hf
    refine t_pi (rfl : mfetch 115 9 = some (9, .putfield 57, 3, 5, 10, 0)) rfl rfl rfl rfl hs1 ?_
    refine mEnds.stp 2 (pc' := 14) (l' := [some (.ref 10), some (.int x1)]) (st' := [.ref 10, .ref 10]) (fun _ => rfl) ?_
    refine t_gi (rfl : mfetch 115 14 = some (14, .getfield 60, 3, 5, 13, 0)) rfl rfl ?_
    obtain ⟨s2, hs2, hf⟩ := ob hf
    refine t_pi (rfl : mfetch 115 17 = some (17, .putfield 63, 3, 5, 11, 0)) rfl rfl rfl rfl hs2 ?_
    cases hf; exact mEnds.rt (fun _ => rfl)
  · rw [if_neg hc1] at hf
    refine t_jT (t := 20) (rfl : mfetch 115 4 = some (4, .ifCond .ne 16, 3, 0, 0, 0)) rfl (k_ne hc1) ?_
    cases hf; exact mEnds.rt (fun _ => rfl)
def M_nameHere_106 (k2 : Int32 → Option Int32) (x1 : Int32) (x2 : Int32) (s : sg) : Option Int32 :=
  if x2 = 0 then
    k2 (x1 + (nI 1))
  else
    some x1
set_option maxRecDepth 100000 in
theorem ok_M_nameHere_106 {k2 : Int32 → Option Int32} {x1 : Int32} {x2 : Int32} {s : sg} {rv : Int32} (hk2 : ∀ (x1 : Int32) (rv : Int32), k2 x1 = some rv → mEnds [] 1 116 (2, [some (.ref 10), some (.int x1), none, none], [], hp shM s, 0, 0) (some (.int rv), hp shM s, 0, 0)) (hf : M_nameHere_106 k2 x1 x2 s = some rv) : mEnds [] 1 116 (106, [some (.ref 10), some (.int x1), some (.int x2), none], [], hp shM s, 0, 0) (some (.int rv), hp shM s, 0, 0) := by
  unfold M_nameHere_106 at hf
  refine mEnds.stp 1 (pc' := 107) (l' := [some (.ref 10), some (.int x1), some (.int x2), none]) (st' := [.int x2]) (fun _ => rfl) ?_
  by_cases hc1 : x2 = 0
  · rw [if_pos hc1] at hf
    refine t_jT (t := 112) (rfl : mfetch 116 107 = some (107, .ifCond .eq 5, 3, 0, 0, 0)) rfl (k_eq hc1) ?_
    refine mEnds.stp 2 (pc' := 2) (l' := [some (.ref 10), some (.int (x1 + (nI 1))), some (.int x2), none]) (st' := []) (fun _ => rfl) ?_
    refine mEnds.cut (l := [some (.ref 10), some (.int (x1 + (nI 1))), none, none]) ⟨rfl, ⟨rfl, trivial⟩⟩ ?_
    exact hk2 (x1 + (nI 1)) _ hf
  · rw [if_neg hc1] at hf
    refine t_jF (rfl : mfetch 116 107 = some (107, .ifCond .eq 5, 3, 0, 0, 0)) (k_eq' hc1) ?_
    refine mEnds.stp 1 (pc' := 111) (l' := [some (.ref 10), some (.int x1), some (.int x2), none]) (st' := [.int x1]) (fun _ => rfl) ?_
    cases hf; exact mEnds.rt (fun _ => rfl)
def M_nameHere_51 (k2 : Int32 → Option Int32) (x1 : Int32) (s : sg) : Nat → Int32 → Int32 → Option Int32
  | 0, _, _ => none
  | fu + 1, x2, x3 =>
  if x2 = 0 then
    M_nameHere_106 k2 x1 x2 s
  else
    if x3 < (s 10 12) - (s 10 13) then
      (M_byteAt ((s 10 13) + x3) s).bind fun v1 =>
      (midx x1 8).bind fun j1 =>
      (midx ((s 14 j1) + x3) 29).bind fun j2 =>
      if v1 = s 15 j2 then
        M_nameHere_51 k2 x1 s fu (nI 1) (x3 + (nI 1))
      else
        M_nameHere_51 k2 x1 s fu (nI 0) (x3 + (nI 1))
    else
      M_nameHere_106 k2 x1 x2 s
set_option maxRecDepth 100000 in
theorem ok_M_nameHere_51 {k2 : Int32 → Option Int32} {x1 : Int32} {s : sg} (hk2 : ∀ (x1 : Int32) (rv : Int32), k2 x1 = some rv → mEnds [] 1 116 (2, [some (.ref 10), some (.int x1), none, none], [], hp shM s, 0, 0) (some (.int rv), hp shM s, 0, 0)) : ∀ (fu : Nat) (x2 : Int32) (x3 : Int32) (rv : Int32), M_nameHere_51 k2 x1 s fu x2 x3 = some rv → mEnds [] 1 116 (51, [some (.ref 10), some (.int x1), some (.int x2), some (.int x3)], [], hp shM s, 0, 0) (some (.int rv), hp shM s, 0, 0)
  | 0, _, _, _, hf => by cases hf
  | fu + 1, x2, x3, rv, hf => by
    rw [M_nameHere_51] at hf
    refine mEnds.stp 1 (pc' := 52) (l' := [some (.ref 10), some (.int x1), some (.int x2), some (.int x3)]) (st' := [.int x2]) (fun _ => rfl) ?_
    by_cases hc1 : x2 = 0
    · rw [if_pos hc1] at hf
      refine t_jT (t := 106) (rfl : mfetch 116 52 = some (52, .ifCond .eq 54, 3, 0, 0, 0)) rfl (k_eq hc1) ?_
      refine mEnds.cut (l := [some (.ref 10), some (.int x1), some (.int x2), none]) ⟨rfl, ⟨rfl, ⟨rfl, trivial⟩⟩⟩ ?_
      exact ok_M_nameHere_106 hk2 hf
    · rw [if_neg hc1] at hf
      refine t_jF (rfl : mfetch 116 52 = some (52, .ifCond .eq 54, 3, 0, 0, 0)) (k_eq' hc1) ?_
      refine mEnds.stp 2 (pc' := 57) (l' := [some (.ref 10), some (.int x1), some (.int x2), some (.int x3)]) (st' := [.ref 10, .int x3]) (fun _ => rfl) ?_
      refine t_gi (rfl : mfetch 116 57 = some (57, .getfield 69, 3, 5, 12, 0)) rfl rfl ?_
      refine mEnds.stp 1 (pc' := 61) (l' := [some (.ref 10), some (.int x1), some (.int x2), some (.int x3)]) (st' := [.ref 10, .int (s 10 12), .int x3]) (fun _ => rfl) ?_
      refine t_gi (rfl : mfetch 116 61 = some (61, .getfield 60, 3, 5, 13, 0)) rfl rfl ?_
      refine mEnds.stp 1 (pc' := 65) (l' := [some (.ref 10), some (.int x1), some (.int x2), some (.int x3)]) (st' := [.int ((s 10 12) - (s 10 13)), .int x3]) (fun _ => rfl) ?_
      by_cases hc2 : x3 < (s 10 12) - (s 10 13)
      · rw [if_pos hc2] at hf
        refine t_cF (rfl : mfetch 116 65 = some (65, .if_icmp .ge 41, 3, 0, 0, 0)) (k_ge' hc2) ?_
        refine mEnds.stp 2 (pc' := 70) (l' := [some (.ref 10), some (.int x1), some (.int x2), some (.int x3)]) (st' := [.ref 10, .ref 10]) (fun _ => rfl) ?_
        refine t_gi (rfl : mfetch 116 70 = some (70, .getfield 60, 3, 5, 13, 0)) rfl rfl ?_
        refine mEnds.stp 2 (pc' := 75) (l' := [some (.ref 10), some (.int x1), some (.int x2), some (.int x3)]) (st' := [.int ((s 10 13) + x3), .ref 10]) (fun _ => rfl) ?_
        obtain ⟨v1, hv1, hf⟩ := ob hf
        refine t_cv (as := [.int ((s 10 13) + x3)]) (st := []) (rfl : mfetch 116 75 = some (75, .invokevirtual 72, 3, 114, 0, 0)) rfl rfl rfl rfl rfl (ok_M_byteAt hv1) ?_
        refine mEnds.stp 1 (pc' := 79) (l' := [some (.ref 10), some (.int x1), some (.int x2), some (.int x3)]) (st' := [.ref 10, .int v1]) (fun _ => rfl) ?_
        refine t_gr (rfl : mfetch 116 79 = some (79, .getfield 22, 3, 5, 17, 0)) rfl rfl ?_
        refine mEnds.stp 1 (pc' := 83) (l' := [some (.ref 10), some (.int x1), some (.int x2), some (.int x3)]) (st' := [.ref 10, .ref 15, .int v1]) (fun _ => rfl) ?_
        refine t_gr (rfl : mfetch 116 83 = some (83, .getfield 19, 3, 5, 16, 0)) rfl rfl ?_
        refine mEnds.stp 1 (pc' := 87) (l' := [some (.ref 10), some (.int x1), some (.int x2), some (.int x3)]) (st' := [.int x1, .ref 14, .ref 15, .int v1]) (fun _ => rfl) ?_
        obtain ⟨j1, hj1, hf⟩ := ob hf
        refine t_ia (rfl : mfetch 116 87 = some (87, .iaload, 1, 0, 0, 0)) rfl rfl hj1 ?_
        refine mEnds.stp 2 (pc' := 90) (l' := [some (.ref 10), some (.int x1), some (.int x2), some (.int x3)]) (st' := [.int ((s 14 j1) + x3), .ref 15, .int v1]) (fun _ => rfl) ?_
        obtain ⟨j2, hj2, hf⟩ := ob hf
        refine t_ia (rfl : mfetch 116 90 = some (90, .iaload, 1, 0, 0, 0)) rfl rfl hj2 ?_
        by_cases hc3 : v1 = s 15 j2
        · rw [if_pos hc3] at hf
          refine t_cF (rfl : mfetch 116 91 = some (91, .if_icmp .ne 7, 3, 0, 0, 0)) (k_ne' hc3) ?_
          refine mEnds.stp 5 (pc' := 51) (l' := [some (.ref 10), some (.int x1), some (.int (nI 1)), some (.int (x3 + (nI 1)))]) (st' := []) (fun _ => rfl) ?_
          refine mEnds.cut (l := [some (.ref 10), some (.int x1), some (.int (nI 1)), some (.int (x3 + (nI 1)))]) ⟨rfl, ⟨rfl, ⟨rfl, ⟨rfl, trivial⟩⟩⟩⟩ ?_
          exact ok_M_nameHere_51 hk2 fu (nI 1) (x3 + (nI 1)) _ hf
        · rw [if_neg hc3] at hf
          refine t_cT (t := 98) (rfl : mfetch 116 91 = some (91, .if_icmp .ne 7, 3, 0, 0, 0)) rfl (k_ne hc3) ?_
          refine mEnds.stp 4 (pc' := 51) (l' := [some (.ref 10), some (.int x1), some (.int (nI 0)), some (.int (x3 + (nI 1)))]) (st' := []) (fun _ => rfl) ?_
          refine mEnds.cut (l := [some (.ref 10), some (.int x1), some (.int (nI 0)), some (.int (x3 + (nI 1)))]) ⟨rfl, ⟨rfl, ⟨rfl, ⟨rfl, trivial⟩⟩⟩⟩ ?_
          exact ok_M_nameHere_51 hk2 fu (nI 0) (x3 + (nI 1)) _ hf
      · rw [if_neg hc2] at hf
        refine t_cT (t := 106) (rfl : mfetch 116 65 = some (65, .if_icmp .ge 41, 3, 0, 0, 0)) rfl (k_ge hc2) ?_
        refine mEnds.cut (l := [some (.ref 10), some (.int x1), some (.int x2), none]) ⟨rfl, ⟨rfl, ⟨rfl, trivial⟩⟩⟩ ?_
        exact ok_M_nameHere_106 hk2 hf
def M_nameHere_2 (s : sg) : Nat → Int32 → Option Int32
  | 0, _ => none
  | fu + 1, x1 =>
  if x1 < nI 7 then
    if s 10 14 = nI 1 then
      (midx (x1 + (nI 1)) 8).bind fun j1 =>
      (midx x1 8).bind fun j2 =>
      if (s 10 12) - (s 10 13) = (s 14 j1) - (s 14 j2) then
        M_nameHere_51 (M_nameHere_2 s fu) x1 s FU (nI 1) (nI 0)
      else
        M_nameHere_51 (M_nameHere_2 s fu) x1 s FU (nI 0) (nI 0)
    else
      some (-4)
  else
    some (-4)
set_option maxRecDepth 100000 in
theorem ok_M_nameHere_2 {s : sg} : ∀ (fu : Nat) (x1 : Int32) (rv : Int32), M_nameHere_2 s fu x1 = some rv → mEnds [] 1 116 (2, [some (.ref 10), some (.int x1), none, none], [], hp shM s, 0, 0) (some (.int rv), hp shM s, 0, 0)
  | 0, _, _, hf => by cases hf
  | fu + 1, x1, rv, hf => by
    rw [M_nameHere_2] at hf
    refine mEnds.stp 2 (pc' := 5) (l' := [some (.ref 10), some (.int x1), none, none]) (st' := [.int (nI 7), .int x1]) (fun _ => rfl) ?_
    by_cases hc1 : x1 < nI 7
    · rw [if_pos hc1] at hf
      refine t_cF (rfl : mfetch 116 5 = some (5, .if_icmp .ge 113, 3, 0, 0, 0)) (k_ge' hc1) ?_
      refine mEnds.stp 1 (pc' := 9) (l' := [some (.ref 10), some (.int x1), none, none]) (st' := [.ref 10]) (fun _ => rfl) ?_
      refine t_gi (rfl : mfetch 116 9 = some (9, .getfield 66, 3, 5, 14, 0)) rfl rfl ?_
      refine mEnds.stp 1 (pc' := 13) (l' := [some (.ref 10), some (.int x1), none, none]) (st' := [.int (nI 1), .int (s 10 14)]) (fun _ => rfl) ?_
      by_cases hc2 : s 10 14 = nI 1
      · rw [if_pos hc2] at hf
        refine t_cF (rfl : mfetch 116 13 = some (13, .if_icmp .ne 105, 3, 0, 0, 0)) (k_ne' hc2) ?_
        refine mEnds.stp 1 (pc' := 17) (l' := [some (.ref 10), some (.int x1), none, none]) (st' := [.ref 10]) (fun _ => rfl) ?_
        refine t_gi (rfl : mfetch 116 17 = some (17, .getfield 69, 3, 5, 12, 0)) rfl rfl ?_
        refine mEnds.stp 1 (pc' := 21) (l' := [some (.ref 10), some (.int x1), none, none]) (st' := [.ref 10, .int (s 10 12)]) (fun _ => rfl) ?_
        refine t_gi (rfl : mfetch 116 21 = some (21, .getfield 60, 3, 5, 13, 0)) rfl rfl ?_
        refine mEnds.stp 2 (pc' := 26) (l' := [some (.ref 10), some (.int x1), none, none]) (st' := [.ref 10, .int ((s 10 12) - (s 10 13))]) (fun _ => rfl) ?_
        refine t_gr (rfl : mfetch 116 26 = some (26, .getfield 19, 3, 5, 16, 0)) rfl rfl ?_
        refine mEnds.stp 3 (pc' := 32) (l' := [some (.ref 10), some (.int x1), none, none]) (st' := [.int (x1 + (nI 1)), .ref 14, .int ((s 10 12) - (s 10 13))]) (fun _ => rfl) ?_
        obtain ⟨j1, hj1, hf⟩ := ob hf
        refine t_ia (rfl : mfetch 116 32 = some (32, .iaload, 1, 0, 0, 0)) rfl rfl hj1 ?_
        refine mEnds.stp 1 (pc' := 34) (l' := [some (.ref 10), some (.int x1), none, none]) (st' := [.ref 10, .int (s 14 j1), .int ((s 10 12) - (s 10 13))]) (fun _ => rfl) ?_
        refine t_gr (rfl : mfetch 116 34 = some (34, .getfield 19, 3, 5, 16, 0)) rfl rfl ?_
        refine mEnds.stp 1 (pc' := 38) (l' := [some (.ref 10), some (.int x1), none, none]) (st' := [.int x1, .ref 14, .int (s 14 j1), .int ((s 10 12) - (s 10 13))]) (fun _ => rfl) ?_
        obtain ⟨j2, hj2, hf⟩ := ob hf
        refine t_ia (rfl : mfetch 116 38 = some (38, .iaload, 1, 0, 0, 0)) rfl rfl hj2 ?_
        refine mEnds.stp 1 (pc' := 40) (l' := [some (.ref 10), some (.int x1), none, none]) (st' := [.int ((s 14 j1) - (s 14 j2)), .int ((s 10 12) - (s 10 13))]) (fun _ => rfl) ?_
        by_cases hc3 : (s 10 12) - (s 10 13) = (s 14 j1) - (s 14 j2)
        · rw [if_pos hc3] at hf
          refine t_cF (rfl : mfetch 116 40 = some (40, .if_icmp .ne 7, 3, 0, 0, 0)) (k_ne' hc3) ?_
          refine mEnds.stp 5 (pc' := 51) (l' := [some (.ref 10), some (.int x1), some (.int (nI 1)), some (.int (nI 0))]) (st' := []) (fun _ => rfl) ?_
          refine mEnds.cut (l := [some (.ref 10), some (.int x1), some (.int (nI 1)), some (.int (nI 0))]) ⟨rfl, ⟨rfl, ⟨rfl, ⟨rfl, trivial⟩⟩⟩⟩ ?_
          exact ok_M_nameHere_51 (ok_M_nameHere_2 fu) FU (nI 1) (nI 0) _ hf
        · rw [if_neg hc3] at hf
          refine t_cT (t := 47) (rfl : mfetch 116 40 = some (40, .if_icmp .ne 7, 3, 0, 0, 0)) rfl (k_ne hc3) ?_
          refine mEnds.stp 4 (pc' := 51) (l' := [some (.ref 10), some (.int x1), some (.int (nI 0)), some (.int (nI 0))]) (st' := []) (fun _ => rfl) ?_
          refine mEnds.cut (l := [some (.ref 10), some (.int x1), some (.int (nI 0)), some (.int (nI 0))]) ⟨rfl, ⟨rfl, ⟨rfl, ⟨rfl, trivial⟩⟩⟩⟩ ?_
          exact ok_M_nameHere_51 (ok_M_nameHere_2 fu) FU (nI 0) (nI 0) _ hf
      · rw [if_neg hc2] at hf
        refine t_cT (t := 118) (rfl : mfetch 116 13 = some (13, .if_icmp .ne 105, 3, 0, 0, 0)) rfl (k_ne hc2) ?_
        refine mEnds.stp 1 (pc' := 120) (l' := [some (.ref 10), some (.int x1), none, none]) (st' := [.int (-4)]) (fun _ => rfl) ?_
        cases hf; exact mEnds.rt (fun _ => rfl)
    · rw [if_neg hc1] at hf
      refine t_cT (t := 118) (rfl : mfetch 116 5 = some (5, .if_icmp .ge 113, 3, 0, 0, 0)) rfl (k_ge hc1) ?_
      refine mEnds.stp 1 (pc' := 120) (l' := [some (.ref 10), some (.int x1), none, none]) (st' := [.int (-4)]) (fun _ => rfl) ?_
      cases hf; exact mEnds.rt (fun _ => rfl)
def M_nameHere (s : sg) : Option Int32 :=
  M_nameHere_2 s FU (nI 0)
set_option maxRecDepth 100000 in
theorem ok_M_nameHere {s : sg} {rv : Int32} (hf : M_nameHere s = some rv) : mEnds [] 1 116 (0, [some (.ref 10), none, none, none], [], hp shM s, 0, 0) (some (.int rv), hp shM s, 0, 0) := by
  unfold M_nameHere at hf
  refine mEnds.stp 2 (pc' := 2) (l' := [some (.ref 10), some (.int (nI 0)), none, none]) (st' := []) (fun _ => rfl) ?_
  refine mEnds.cut (l := [some (.ref 10), some (.int (nI 0)), none, none]) ⟨rfl, ⟨rfl, trivial⟩⟩ ?_
  exact ok_M_nameHere_2 FU (nI 0) _ hf
def M_step_84 : Nat → sg → Option sg
  | 0, _ => none
  | fu + 1, s =>
  (M_byteAt (s 10 12) s).bind fun v1 =>
  (M_in v1.toInt64 (97 : Int64) (122 : Int64) s).bind fun v2 =>
  if v2 = 0 then
    (some (up s 10 14 (nI 1))).bind fun s1 =>
    some s1
  else
    (some (up s 10 12 ((s 10 12) + (nI 1)))).bind fun s2 =>
    M_step_84 fu s2
set_option maxRecDepth 100000 in
theorem ok_M_step_84 : ∀ (fu : Nat) (s : sg) (rv : sg), M_step_84 fu s = some rv → mEnds [] 1 117 (84, [some (.ref 10), none], [], hp shM s, 0, 0) (none, hp shM rv, 0, 0)
  | 0, _, _, hf => by cases hf
  | fu + 1, s, rv, hf => by
    rw [M_step_84] at hf
    refine mEnds.stp 2 (pc' := 86) (l' := [some (.ref 10), none]) (st' := [.ref 10, .ref 10]) (fun _ => rfl) ?_
    refine t_gi (rfl : mfetch 117 86 = some (86, .getfield 69, 3, 5, 12, 0)) rfl rfl ?_
    obtain ⟨v1, hv1, hf⟩ := ob hf
    refine t_cv (as := [.int (s 10 12)]) (st := []) (rfl : mfetch 117 89 = some (89, .invokevirtual 72, 3, 114, 0, 0)) rfl rfl rfl rfl rfl (ok_M_byteAt hv1) ?_
    refine mEnds.stp 3 (pc' := 99) (l' := [some (.ref 10), none]) (st' := [.long (122 : Int64), .long (97 : Int64), .long v1.toInt64]) (fun _ => rfl) ?_
    obtain ⟨v2, hv2, hf⟩ := ob hf
    refine t_cs (as := [.long v1.toInt64, .long (97 : Int64), .long (122 : Int64)]) (st := []) (Or.inl rfl) (rfl : mfetch 117 99 = some (99, .invokestatic 49, 3, 111, 0, 0)) rfl rfl rfl (ok_M_in hv2) ?_
    by_cases hc1 : v2 = 0
    · rw [if_pos hc1] at hf
      refine t_jT (t := 118) (rfl : mfetch 117 102 = some (102, .ifCond .eq 16, 3, 0, 0, 0)) rfl (k_eq hc1) ?_
      refine mEnds.stp 2 (pc' := 120) (l' := [some (.ref 10), none]) (st' := [.int (nI 1), .ref 10]) (fun _ => rfl) ?_
      obtain ⟨s1, hs1, hf⟩ := ob hf
      refine t_pi (rfl : mfetch 117 120 = some (120, .putfield 66, 3, 5, 14, 0)) rfl rfl rfl rfl hs1 ?_
      refine mEnds.stp 1 (pc' := 269) (l' := [some (.ref 10), none]) (st' := []) (fun _ => rfl) ?_
      cases hf; exact mEnds.rt (fun _ => rfl)
    · rw [if_neg hc1] at hf
      refine t_jF (rfl : mfetch 117 102 = some (102, .ifCond .eq 16, 3, 0, 0, 0)) (k_eq' hc1) ?_
      refine mEnds.stp 2 (pc' := 107) (l' := [some (.ref 10), none]) (st' := [.ref 10, .ref 10]) (fun _ => rfl) ?_
      refine t_gi (rfl : mfetch 117 107 = some (107, .getfield 69, 3, 5, 12, 0)) rfl rfl ?_
      refine mEnds.stp 2 (pc' := 112) (l' := [some (.ref 10), none]) (st' := [.int ((s 10 12) + (nI 1)), .ref 10]) (fun _ => rfl) ?_
      obtain ⟨s2, hs2, hf⟩ := ob hf
      refine t_pi (rfl : mfetch 117 112 = some (112, .putfield 69, 3, 5, 12, 0)) rfl rfl rfl rfl hs2 ?_
      refine mEnds.stp 1 (pc' := 84) (l' := [some (.ref 10), none]) (st' := []) (fun _ => rfl) ?_
      refine mEnds.cut (l := [some (.ref 10), none]) ⟨rfl, trivial⟩ ?_
      exact ok_M_step_84 fu s2 _ hf
def M_step_201 (k140 : sg → Option sg) (y0 : Int32) (s : sg) : Option sg :=
  (some (up s 10 15 y0)).bind fun s1 =>
  (some (up s1 10 12 ((s1 10 12) + (nI 1)))).bind fun s2 =>
  k140 s2
set_option maxRecDepth 100000 in
theorem ok_M_step_201 {k140 : sg → Option sg} {y0 : Int32} {s : sg} {rv : sg} (hk140 : ∀  (s : sg) (rv : sg), k140 s = some rv → mEnds [] 1 117 (140, [some (.ref 10), none], [], hp shM s, 0, 0) (none, hp shM rv, 0, 0)) (hf : M_step_201 k140 y0 s = some rv) : mEnds [] 1 117 (201, [some (.ref 10), none], [.int y0, .ref 10], hp shM s, 0, 0) (none, hp shM rv, 0, 0) := by
  unfold M_step_201 at hf
  obtain ⟨s1, hs1, hf⟩ := ob hf
  refine t_pi (rfl : mfetch 117 201 = some (201, .putfield 76, 3, 5, 15, 0)) rfl rfl rfl rfl hs1 ?_
  refine mEnds.stp 2 (pc' := 206) (l' := [some (.ref 10), none]) (st' := [.ref 10, .ref 10]) (fun _ => rfl) ?_
  refine t_gi (rfl : mfetch 117 206 = some (206, .getfield 69, 3, 5, 12, 0)) rfl rfl ?_
  refine mEnds.stp 2 (pc' := 211) (l' := [some (.ref 10), none]) (st' := [.int ((s1 10 12) + (nI 1)), .ref 10]) (fun _ => rfl) ?_
  obtain ⟨s2, hs2, hf⟩ := ob hf
  refine t_pi (rfl : mfetch 117 211 = some (211, .putfield 69, 3, 5, 12, 0)) rfl rfl rfl rfl hs2 ?_
  refine mEnds.stp 1 (pc' := 140) (l' := [some (.ref 10), none]) (st' := []) (fun _ => rfl) ?_
  refine mEnds.cut (l := [some (.ref 10), none]) ⟨rfl, trivial⟩ ?_
  exact hk140 s2 _ hf
def M_step_140 : Nat → sg → Option sg
  | 0, _ => none
  | fu + 1, s =>
  (M_byteAt (s 10 12) s).bind fun v1 =>
  (M_in v1.toInt64 (48 : Int64) (57 : Int64) s).bind fun v2 =>
  if v2 = 0 then
    (some (up s 10 14 (nI 2))).bind fun s1 =>
    if nI 2 < (s1 10 12) - (s1 10 13) then
      (M_fails (nI 1) s1).bind fun s2 =>
      some s2
    else
      some s1
  else
    if (s 10 12) - (s 10 13) < nI 2 then
      (M_byteAt (s 10 12) s).bind fun v4 =>
      M_step_201 (M_step_140 fu) ((((nI 10) * (s 10 15)) + v4) - (nI 48)) s
    else
      M_step_201 (M_step_140 fu) (s 10 15) s
set_option maxRecDepth 100000 in
theorem ok_M_step_140 : ∀ (fu : Nat) (s : sg) (rv : sg), M_step_140 fu s = some rv → mEnds [] 1 117 (140, [some (.ref 10), none], [], hp shM s, 0, 0) (none, hp shM rv, 0, 0)
  | 0, _, _, hf => by cases hf
  | fu + 1, s, rv, hf => by
    rw [M_step_140] at hf
    refine mEnds.stp 2 (pc' := 142) (l' := [some (.ref 10), none]) (st' := [.ref 10, .ref 10]) (fun _ => rfl) ?_
    refine t_gi (rfl : mfetch 117 142 = some (142, .getfield 69, 3, 5, 12, 0)) rfl rfl ?_
    obtain ⟨v1, hv1, hf⟩ := ob hf
    refine t_cv (as := [.int (s 10 12)]) (st := []) (rfl : mfetch 117 145 = some (145, .invokevirtual 72, 3, 114, 0, 0)) rfl rfl rfl rfl rfl (ok_M_byteAt hv1) ?_
    refine mEnds.stp 3 (pc' := 155) (l' := [some (.ref 10), none]) (st' := [.long (57 : Int64), .long (48 : Int64), .long v1.toInt64]) (fun _ => rfl) ?_
    obtain ⟨v2, hv2, hf⟩ := ob hf
    refine t_cs (as := [.long v1.toInt64, .long (48 : Int64), .long (57 : Int64)]) (st := []) (Or.inl rfl) (rfl : mfetch 117 155 = some (155, .invokestatic 49, 3, 111, 0, 0)) rfl rfl rfl (ok_M_in hv2) ?_
    by_cases hc1 : v2 = 0
    · rw [if_pos hc1] at hf
      refine t_jT (t := 217) (rfl : mfetch 117 158 = some (158, .ifCond .eq 59, 3, 0, 0, 0)) rfl (k_eq hc1) ?_
      refine mEnds.stp 2 (pc' := 219) (l' := [some (.ref 10), none]) (st' := [.int (nI 2), .ref 10]) (fun _ => rfl) ?_
      obtain ⟨s1, hs1, hf⟩ := ob hf
      refine t_pi (rfl : mfetch 117 219 = some (219, .putfield 66, 3, 5, 14, 0)) rfl rfl rfl rfl hs1 ?_
      refine mEnds.stp 1 (pc' := 223) (l' := [some (.ref 10), none]) (st' := [.ref 10]) (fun _ => rfl) ?_
      refine t_gi (rfl : mfetch 117 223 = some (223, .getfield 69, 3, 5, 12, 0)) rfl rfl ?_
      refine mEnds.stp 1 (pc' := 227) (l' := [some (.ref 10), none]) (st' := [.ref 10, .int (s1 10 12)]) (fun _ => rfl) ?_
      refine t_gi (rfl : mfetch 117 227 = some (227, .getfield 60, 3, 5, 13, 0)) rfl rfl ?_
      refine mEnds.stp 2 (pc' := 232) (l' := [some (.ref 10), none]) (st' := [.int (nI 2), .int ((s1 10 12) - (s1 10 13))]) (fun _ => rfl) ?_
      by_cases hc2 : nI 2 < (s1 10 12) - (s1 10 13)
      · rw [if_pos hc2] at hf
        refine t_cF (rfl : mfetch 117 232 = some (232, .if_icmp .le 37, 3, 0, 0, 0)) (k_le' hc2) ?_
        refine mEnds.stp 2 (pc' := 237) (l' := [some (.ref 10), none]) (st' := [.int (nI 1), .ref 10]) (fun _ => rfl) ?_
        obtain ⟨s2, hs2, hf⟩ := ob hf
        refine t_cv (as := [.int (nI 1)]) (st := []) (rfl : mfetch 117 237 = some (237, .invokevirtual 87, 3, 115, 0, 0)) rfl rfl rfl rfl rfl (ok_M_fails hs2) ?_
        refine mEnds.stp 1 (pc' := 269) (l' := [some (.ref 10), none]) (st' := []) (fun _ => rfl) ?_
        cases hf; exact mEnds.rt (fun _ => rfl)
      · rw [if_neg hc2] at hf
        refine t_cT (t := 269) (rfl : mfetch 117 232 = some (232, .if_icmp .le 37, 3, 0, 0, 0)) rfl (k_le hc2) ?_
        cases hf; exact mEnds.rt (fun _ => rfl)
    · rw [if_neg hc1] at hf
      refine t_jF (rfl : mfetch 117 158 = some (158, .ifCond .eq 59, 3, 0, 0, 0)) (k_eq' hc1) ?_
      refine mEnds.stp 2 (pc' := 163) (l' := [some (.ref 10), none]) (st' := [.ref 10, .ref 10]) (fun _ => rfl) ?_
      refine t_gi (rfl : mfetch 117 163 = some (163, .getfield 69, 3, 5, 12, 0)) rfl rfl ?_
      refine mEnds.stp 1 (pc' := 167) (l' := [some (.ref 10), none]) (st' := [.ref 10, .int (s 10 12), .ref 10]) (fun _ => rfl) ?_
      refine t_gi (rfl : mfetch 117 167 = some (167, .getfield 60, 3, 5, 13, 0)) rfl rfl ?_
      refine mEnds.stp 2 (pc' := 172) (l' := [some (.ref 10), none]) (st' := [.int (nI 2), .int ((s 10 12) - (s 10 13)), .ref 10]) (fun _ => rfl) ?_
      by_cases hc3 : (s 10 12) - (s 10 13) < nI 2
      · rw [if_pos hc3] at hf
        refine t_cF (rfl : mfetch 117 172 = some (172, .if_icmp .ge 25, 3, 0, 0, 0)) (k_ge' hc3) ?_
        refine mEnds.stp 2 (pc' := 178) (l' := [some (.ref 10), none]) (st' := [.ref 10, .int (nI 10), .ref 10]) (fun _ => rfl) ?_
        refine t_gi (rfl : mfetch 117 178 = some (178, .getfield 76, 3, 5, 15, 0)) rfl rfl ?_
        refine mEnds.stp 3 (pc' := 184) (l' := [some (.ref 10), none]) (st' := [.ref 10, .ref 10, .int ((nI 10) * (s 10 15)), .ref 10]) (fun _ => rfl) ?_
        refine t_gi (rfl : mfetch 117 184 = some (184, .getfield 69, 3, 5, 12, 0)) rfl rfl ?_
        obtain ⟨v4, hv4, hf⟩ := ob hf
        refine t_cv (as := [.int (s 10 12)]) (st := [.int ((nI 10) * (s 10 15)), .ref 10]) (rfl : mfetch 117 187 = some (187, .invokevirtual 72, 3, 114, 0, 0)) rfl rfl rfl rfl rfl (ok_M_byteAt hv4) ?_
        refine mEnds.stp 4 (pc' := 201) (l' := [some (.ref 10), none]) (st' := [.int ((((nI 10) * (s 10 15)) + v4) - (nI 48)), .ref 10]) (fun _ => rfl) ?_
        refine mEnds.cut (l := [some (.ref 10), none]) ⟨rfl, trivial⟩ ?_
        exact ok_M_step_201 (ok_M_step_140 fu) hf
      · rw [if_neg hc3] at hf
        refine t_cT (t := 197) (rfl : mfetch 117 172 = some (172, .if_icmp .ge 25, 3, 0, 0, 0)) rfl (k_ge hc3) ?_
        refine mEnds.stp 1 (pc' := 198) (l' := [some (.ref 10), none]) (st' := [.ref 10, .ref 10]) (fun _ => rfl) ?_
        refine t_gi (rfl : mfetch 117 198 = some (198, .getfield 76, 3, 5, 15, 0)) rfl rfl ?_
        refine mEnds.cut (l := [some (.ref 10), none]) ⟨rfl, trivial⟩ ?_
        exact ok_M_step_201 (ok_M_step_140 fu) hf
def M_step_8 : Nat → sg → Option sg
  | 0, _ => none
  | fu + 1, s =>
  (M_byteAt (s 10 12) s).bind fun v1 =>
  if v1 = nI 32 then
    (some (up s 10 12 ((s 10 12) + (nI 1)))).bind fun s7 =>
    M_step_8 fu s7
  else
    (some (up s 10 13 (s 10 12))).bind fun s1 =>
    (M_byteAt (s1 10 12) s1).bind fun v2 =>
    (some (up s1 10 15 (nI 0))).bind fun s2 =>
    if v2 = (-4) then
      (some (up s2 10 14 (nI 0))).bind fun s6 =>
      some s6
    else
      (M_in v2.toInt64 (97 : Int64) (122 : Int64) s2).bind fun v3 =>
      if v3 = 0 then
        (M_in v2.toInt64 (48 : Int64) (57 : Int64) s2).bind fun v4 =>
        if v4 = 0 then
          (some (up s2 10 14 (nI 3))).bind fun s3 =>
          (some (up s3 10 12 ((s3 10 12) + (nI 1)))).bind fun s4 =>
          if v2 = nI 59 then
            some s4
          else
            (M_fails (nI 1) s4).bind fun s5 =>
            some s5
        else
          M_step_140 FU s2
      else
        M_step_84 FU s2
set_option maxRecDepth 100000 in
theorem ok_M_step_8 : ∀ (fu : Nat) (s : sg) (rv : sg), M_step_8 fu s = some rv → mEnds [] 1 117 (8, [some (.ref 10), none], [], hp shM s, 0, 0) (none, hp shM rv, 0, 0)
  | 0, _, _, hf => by cases hf
  | fu + 1, s, rv, hf => by
    rw [M_step_8] at hf
    refine mEnds.stp 2 (pc' := 10) (l' := [some (.ref 10), none]) (st' := [.ref 10, .ref 10]) (fun _ => rfl) ?_
    refine t_gi (rfl : mfetch 117 10 = some (10, .getfield 69, 3, 5, 12, 0)) rfl rfl ?_
    obtain ⟨v1, hv1, hf⟩ := ob hf
    refine t_cv (as := [.int (s 10 12)]) (st := []) (rfl : mfetch 117 13 = some (13, .invokevirtual 72, 3, 114, 0, 0)) rfl rfl rfl rfl rfl (ok_M_byteAt hv1) ?_
    refine mEnds.stp 1 (pc' := 18) (l' := [some (.ref 10), none]) (st' := [.int (nI 32), .int v1]) (fun _ => rfl) ?_
    by_cases hc1 : v1 = nI 32
    · rw [if_pos hc1] at hf
      refine t_cF (rfl : mfetch 117 18 = some (18, .if_icmp .ne 16, 3, 0, 0, 0)) (k_ne' hc1) ?_
      refine mEnds.stp 2 (pc' := 23) (l' := [some (.ref 10), none]) (st' := [.ref 10, .ref 10]) (fun _ => rfl) ?_
      refine t_gi (rfl : mfetch 117 23 = some (23, .getfield 69, 3, 5, 12, 0)) rfl rfl ?_
      refine mEnds.stp 2 (pc' := 28) (l' := [some (.ref 10), none]) (st' := [.int ((s 10 12) + (nI 1)), .ref 10]) (fun _ => rfl) ?_
      obtain ⟨s7, hs7, hf⟩ := ob hf
      refine t_pi (rfl : mfetch 117 28 = some (28, .putfield 69, 3, 5, 12, 0)) rfl rfl rfl rfl hs7 ?_
      refine mEnds.stp 1 (pc' := 8) (l' := [some (.ref 10), none]) (st' := []) (fun _ => rfl) ?_
      refine mEnds.cut (l := [some (.ref 10), none]) ⟨rfl, trivial⟩ ?_
      exact ok_M_step_8 fu s7 _ hf
    · rw [if_neg hc1] at hf
      refine t_cT (t := 34) (rfl : mfetch 117 18 = some (18, .if_icmp .ne 16, 3, 0, 0, 0)) rfl (k_ne hc1) ?_
      refine mEnds.stp 2 (pc' := 36) (l' := [some (.ref 10), none]) (st' := [.ref 10, .ref 10]) (fun _ => rfl) ?_
      refine t_gi (rfl : mfetch 117 36 = some (36, .getfield 69, 3, 5, 12, 0)) rfl rfl ?_
      obtain ⟨s1, hs1, hf⟩ := ob hf
      refine t_pi (rfl : mfetch 117 39 = some (39, .putfield 60, 3, 5, 13, 0)) rfl rfl rfl rfl hs1 ?_
      refine mEnds.stp 2 (pc' := 44) (l' := [some (.ref 10), none]) (st' := [.ref 10, .ref 10]) (fun _ => rfl) ?_
      refine t_gi (rfl : mfetch 117 44 = some (44, .getfield 69, 3, 5, 12, 0)) rfl rfl ?_
      obtain ⟨v2, hv2, hf⟩ := ob hf
      refine t_cv (as := [.int (s1 10 12)]) (st := []) (rfl : mfetch 117 47 = some (47, .invokevirtual 72, 3, 114, 0, 0)) rfl rfl rfl rfl rfl (ok_M_byteAt hv2) ?_
      refine mEnds.stp 3 (pc' := 53) (l' := [some (.ref 10), some (.int v2)]) (st' := [.int (nI 0), .ref 10]) (fun _ => rfl) ?_
      obtain ⟨s2, hs2, hf⟩ := ob hf
      refine t_pi (rfl : mfetch 117 53 = some (53, .putfield 76, 3, 5, 15, 0)) rfl rfl rfl rfl hs2 ?_
      refine mEnds.stp 2 (pc' := 59) (l' := [some (.ref 10), some (.int v2)]) (st' := [.int (-4), .int v2]) (fun _ => rfl) ?_
      by_cases hc2 : v2 = (-4)
      · rw [if_pos hc2] at hf
        refine t_cF (rfl : mfetch 117 59 = some (59, .if_icmp .ne 11, 3, 0, 0, 0)) (k_ne' hc2) ?_
        refine mEnds.stp 2 (pc' := 64) (l' := [some (.ref 10), some (.int v2)]) (st' := [.int (nI 0), .ref 10]) (fun _ => rfl) ?_
        obtain ⟨s6, hs6, hf⟩ := ob hf
        refine t_pi (rfl : mfetch 117 64 = some (64, .putfield 66, 3, 5, 14, 0)) rfl rfl rfl rfl hs6 ?_
        refine mEnds.stp 1 (pc' := 269) (l' := [some (.ref 10), some (.int v2)]) (st' := []) (fun _ => rfl) ?_
        cases hf; exact mEnds.rt (fun _ => rfl)
      · rw [if_neg hc2] at hf
        refine t_cT (t := 70) (rfl : mfetch 117 59 = some (59, .if_icmp .ne 11, 3, 0, 0, 0)) rfl (k_ne hc2) ?_
        refine mEnds.stp 4 (pc' := 78) (l' := [some (.ref 10), some (.int v2)]) (st' := [.long (122 : Int64), .long (97 : Int64), .long v2.toInt64]) (fun _ => rfl) ?_
        obtain ⟨v3, hv3, hf⟩ := ob hf
        refine t_cs (as := [.long v2.toInt64, .long (97 : Int64), .long (122 : Int64)]) (st := []) (Or.inl rfl) (rfl : mfetch 117 78 = some (78, .invokestatic 49, 3, 111, 0, 0)) rfl rfl rfl (ok_M_in hv3) ?_
        by_cases hc3 : v3 = 0
        · rw [if_pos hc3] at hf
          refine t_jT (t := 126) (rfl : mfetch 117 81 = some (81, .ifCond .eq 45, 3, 0, 0, 0)) rfl (k_eq hc3) ?_
          refine mEnds.stp 4 (pc' := 134) (l' := [some (.ref 10), some (.int v2)]) (st' := [.long (57 : Int64), .long (48 : Int64), .long v2.toInt64]) (fun _ => rfl) ?_
          obtain ⟨v4, hv4, hf⟩ := ob hf
          refine t_cs (as := [.long v2.toInt64, .long (48 : Int64), .long (57 : Int64)]) (st := []) (Or.inl rfl) (rfl : mfetch 117 134 = some (134, .invokestatic 49, 3, 111, 0, 0)) rfl rfl rfl (ok_M_in hv4) ?_
          by_cases hc4 : v4 = 0
          · rw [if_pos hc4] at hf
            refine t_jT (t := 243) (rfl : mfetch 117 137 = some (137, .ifCond .eq 106, 3, 0, 0, 0)) rfl (k_eq hc4) ?_
            refine mEnds.stp 2 (pc' := 245) (l' := [some (.ref 10), some (.int v2)]) (st' := [.int (nI 3), .ref 10]) (fun _ => rfl) ?_
            obtain ⟨s3, hs3, hf⟩ := ob hf
            refine t_pi (rfl : mfetch 117 245 = some (245, .putfield 66, 3, 5, 14, 0)) rfl rfl rfl rfl hs3 ?_
            refine mEnds.stp 2 (pc' := 250) (l' := [some (.ref 10), some (.int v2)]) (st' := [.ref 10, .ref 10]) (fun _ => rfl) ?_
            refine t_gi (rfl : mfetch 117 250 = some (250, .getfield 69, 3, 5, 12, 0)) rfl rfl ?_
            refine mEnds.stp 2 (pc' := 255) (l' := [some (.ref 10), some (.int v2)]) (st' := [.int ((s3 10 12) + (nI 1)), .ref 10]) (fun _ => rfl) ?_
            obtain ⟨s4, hs4, hf⟩ := ob hf
            refine t_pi (rfl : mfetch 117 255 = some (255, .putfield 69, 3, 5, 12, 0)) rfl rfl rfl rfl hs4 ?_
            refine mEnds.stp 2 (pc' := 261) (l' := [some (.ref 10), some (.int v2)]) (st' := [.int (nI 59), .int v2]) (fun _ => rfl) ?_
            by_cases hc5 : v2 = nI 59
            · rw [if_pos hc5] at hf
              refine t_cT (t := 269) (rfl : mfetch 117 261 = some (261, .if_icmp .eq 8, 3, 0, 0, 0)) rfl (k_eq hc5) ?_
              cases hf; exact mEnds.rt (fun _ => rfl)
            · rw [if_neg hc5] at hf
              refine t_cF (rfl : mfetch 117 261 = some (261, .if_icmp .eq 8, 3, 0, 0, 0)) (k_eq' hc5) ?_
              refine mEnds.stp 2 (pc' := 266) (l' := [some (.ref 10), some (.int v2)]) (st' := [.int (nI 1), .ref 10]) (fun _ => rfl) ?_
              obtain ⟨s5, hs5, hf⟩ := ob hf
              refine t_cv (as := [.int (nI 1)]) (st := []) (rfl : mfetch 117 266 = some (266, .invokevirtual 87, 3, 115, 0, 0)) rfl rfl rfl rfl rfl (ok_M_fails hs5) ?_
              cases hf; exact mEnds.rt (fun _ => rfl)
          · rw [if_neg hc4] at hf
            refine t_jF (rfl : mfetch 117 137 = some (137, .ifCond .eq 106, 3, 0, 0, 0)) (k_eq' hc4) ?_
            refine mEnds.cut (l := [some (.ref 10), none]) ⟨rfl, trivial⟩ ?_
            exact ok_M_step_140 FU s2 _ hf
        · rw [if_neg hc3] at hf
          refine t_jF (rfl : mfetch 117 81 = some (81, .ifCond .eq 45, 3, 0, 0, 0)) (k_eq' hc3) ?_
          refine mEnds.cut (l := [some (.ref 10), none]) ⟨rfl, trivial⟩ ?_
          exact ok_M_step_84 FU s2 _ hf
def M_step (s : sg) : Option sg :=
  if 0 < s 10 10 then
    some s
  else
    M_step_8 FU s
set_option maxRecDepth 100000 in
theorem ok_M_step {s : sg} {rv : sg} (hf : M_step s = some rv) : mEnds [] 1 117 (0, [some (.ref 10), none], [], hp shM s, 0, 0) (none, hp shM rv, 0, 0) := by
  unfold M_step at hf
  refine mEnds.stp 1 (pc' := 1) (l' := [some (.ref 10), none]) (st' := [.ref 10]) (fun _ => rfl) ?_
  refine t_gi (rfl : mfetch 117 1 = some (1, .getfield 57, 3, 5, 10, 0)) rfl rfl ?_
  by_cases hc1 : 0 < s 10 10
  · rw [if_pos hc1] at hf
    refine t_jF (rfl : mfetch 117 4 = some (4, .ifCond .le 4, 3, 0, 0, 0)) (k_le' hc1) ?_
    cases hf; exact mEnds.rt (fun _ => rfl)
  · rw [if_neg hc1] at hf
    refine t_jT (t := 8) (rfl : mfetch 117 4 = some (4, .ifCond .le 4, 3, 0, 0, 0)) rfl (k_le hc1) ?_
    refine mEnds.cut (l := [some (.ref 10), none]) ⟨rfl, trivial⟩ ?_
    exact ok_M_step_8 FU s _ hf
def M_number_62 (y0 : Int32) (s : sg) : Option (Int32 × sg) :=
  (M_step s).bind fun s1 =>
  some (y0, s1)
set_option maxRecDepth 100000 in
theorem ok_M_number_62 {y0 : Int32} {s : sg} {rv : (Int32 × sg)} (hf : M_number_62 y0 s = some rv) : mEnds [] 2 118 (62, [some (.ref 10), none, none, none], [.int y0], hp shM s, 0, 0) (some (.int rv.1), hp shM rv.2, 0, 0) := by
  unfold M_number_62 at hf
  refine mEnds.stp 2 (pc' := 64) (l' := [some (.ref 10), none, none, some (.int y0)]) (st' := [.ref 10]) (fun _ => rfl) ?_
  obtain ⟨s1, hs1, hf⟩ := ob hf
  refine t_cv (as := []) (st := []) (rfl : mfetch 118 64 = some (64, .invokevirtual 91, 3, 117, 0, 0)) rfl rfl rfl rfl rfl (ok_M_step hs1) ?_
  refine mEnds.stp 1 (pc' := 68) (l' := [some (.ref 10), none, none, some (.int y0)]) (st' := [.int y0]) (fun _ => rfl) ?_
  exact mEnds.rti (Option.some.inj hf) (fun _ => rfl)
def M_number_47 (x1 : Int32) (s : sg) : Option (Int32 × sg) :=
  if s 10 10 = 0 then
    M_number_62 (s 10 15) s
  else
    M_number_62 x1 s
set_option maxRecDepth 100000 in
theorem ok_M_number_47 {x1 : Int32} {s : sg} {rv : (Int32 × sg)} (hf : M_number_47 x1 s = some rv) : mEnds [] 2 118 (47, [some (.ref 10), some (.int x1), none, none], [], hp shM s, 0, 0) (some (.int rv.1), hp shM rv.2, 0, 0) := by
  unfold M_number_47 at hf
  refine mEnds.stp 1 (pc' := 48) (l' := [some (.ref 10), some (.int x1), none, none]) (st' := [.ref 10]) (fun _ => rfl) ?_
  refine t_gi (rfl : mfetch 118 48 = some (48, .getfield 57, 3, 5, 10, 0)) rfl rfl ?_
  by_cases hc1 : s 10 10 = 0
  · rw [if_pos hc1] at hf
    refine t_jF (rfl : mfetch 118 51 = some (51, .ifCond .ne 10, 3, 0, 0, 0)) (k_ne' hc1) ?_
    refine mEnds.stp 1 (pc' := 55) (l' := [some (.ref 10), some (.int x1), none, none]) (st' := [.ref 10]) (fun _ => rfl) ?_
    refine t_gi (rfl : mfetch 118 55 = some (55, .getfield 76, 3, 5, 15, 0)) rfl rfl ?_
    refine mEnds.stp 1 (pc' := 62) (l' := [some (.ref 10), some (.int x1), none, none]) (st' := [.int (s 10 15)]) (fun _ => rfl) ?_
    refine mEnds.cut (l := [some (.ref 10), none, none, none]) ⟨rfl, trivial⟩ ?_
    exact ok_M_number_62 hf
  · rw [if_neg hc1] at hf
    refine t_jT (t := 61) (rfl : mfetch 118 51 = some (51, .ifCond .ne 10, 3, 0, 0, 0)) rfl (k_ne hc1) ?_
    refine mEnds.stp 1 (pc' := 62) (l' := [some (.ref 10), some (.int x1), none, none]) (st' := [.int x1]) (fun _ => rfl) ?_
    refine mEnds.cut (l := [some (.ref 10), none, none, none]) ⟨rfl, trivial⟩ ?_
    exact ok_M_number_62 hf
def M_number_20 (x1 : Int32) (x2 : Int32) (s : sg) : Option (Int32 × sg) :=
  if s 10 10 = 0 then
    (M_in ((s 10 15).toInt64) x1.toInt64 x2.toInt64 s).bind fun v1 =>
    if v1 = 0 then
      (M_fails (nI 3) s).bind fun s1 =>
      M_number_47 x1 s1
    else
      M_number_47 x1 s
  else
    M_number_47 x1 s
set_option maxRecDepth 100000 in
theorem ok_M_number_20 {x1 : Int32} {x2 : Int32} {s : sg} {rv : (Int32 × sg)} (hf : M_number_20 x1 x2 s = some rv) : mEnds [] 2 118 (20, [some (.ref 10), some (.int x1), some (.int x2), none], [], hp shM s, 0, 0) (some (.int rv.1), hp shM rv.2, 0, 0) := by
  unfold M_number_20 at hf
  refine mEnds.stp 1 (pc' := 21) (l' := [some (.ref 10), some (.int x1), some (.int x2), none]) (st' := [.ref 10]) (fun _ => rfl) ?_
  refine t_gi (rfl : mfetch 118 21 = some (21, .getfield 57, 3, 5, 10, 0)) rfl rfl ?_
  by_cases hc1 : s 10 10 = 0
  · rw [if_pos hc1] at hf
    refine t_jF (rfl : mfetch 118 24 = some (24, .ifCond .ne 23, 3, 0, 0, 0)) (k_ne' hc1) ?_
    refine mEnds.stp 1 (pc' := 28) (l' := [some (.ref 10), some (.int x1), some (.int x2), none]) (st' := [.ref 10]) (fun _ => rfl) ?_
    refine t_gi (rfl : mfetch 118 28 = some (28, .getfield 76, 3, 5, 15, 0)) rfl rfl ?_
    refine mEnds.stp 5 (pc' := 36) (l' := [some (.ref 10), some (.int x1), some (.int x2), none]) (st' := [.long x2.toInt64, .long x1.toInt64, .long ((s 10 15).toInt64)]) (fun _ => rfl) ?_
    obtain ⟨v1, hv1, hf⟩ := ob hf
    refine t_cs (as := [.long ((s 10 15).toInt64), .long x1.toInt64, .long x2.toInt64]) (st := []) (Or.inl rfl) (rfl : mfetch 118 36 = some (36, .invokestatic 49, 3, 111, 0, 0)) rfl rfl rfl ((ok_M_in hv1).deep 1) ?_
    by_cases hc2 : v1 = 0
    · rw [if_pos hc2] at hf
      refine t_jF (rfl : mfetch 118 39 = some (39, .ifCond .ne 8, 3, 0, 0, 0)) (k_ne' hc2) ?_
      refine mEnds.stp 2 (pc' := 44) (l' := [some (.ref 10), some (.int x1), some (.int x2), none]) (st' := [.int (nI 3), .ref 10]) (fun _ => rfl) ?_
      obtain ⟨s1, hs1, hf⟩ := ob hf
      refine t_cv (as := [.int (nI 3)]) (st := []) (rfl : mfetch 118 44 = some (44, .invokevirtual 87, 3, 115, 0, 0)) rfl rfl rfl rfl rfl ((ok_M_fails hs1).deep 1) ?_
      refine mEnds.cut (l := [some (.ref 10), some (.int x1), none, none]) ⟨rfl, ⟨rfl, trivial⟩⟩ ?_
      exact ok_M_number_47 hf
    · rw [if_neg hc2] at hf
      refine t_jT (t := 47) (rfl : mfetch 118 39 = some (39, .ifCond .ne 8, 3, 0, 0, 0)) rfl (k_ne hc2) ?_
      refine mEnds.cut (l := [some (.ref 10), some (.int x1), none, none]) ⟨rfl, ⟨rfl, trivial⟩⟩ ?_
      exact ok_M_number_47 hf
  · rw [if_neg hc1] at hf
    refine t_jT (t := 47) (rfl : mfetch 118 24 = some (24, .ifCond .ne 23, 3, 0, 0, 0)) rfl (k_ne hc1) ?_
    refine mEnds.cut (l := [some (.ref 10), some (.int x1), none, none]) ⟨rfl, ⟨rfl, trivial⟩⟩ ?_
    exact ok_M_number_47 hf
def M_number (x1 : Int32) (x2 : Int32) (s : sg) : Option (Int32 × sg) :=
  if s 10 10 = 0 then
    if s 10 14 = nI 2 then
      M_number_20 x1 x2 s
    else
      (M_fails (nI 2) s).bind fun s1 =>
      M_number_20 x1 x2 s1
  else
    M_number_20 x1 x2 s
set_option maxRecDepth 100000 in
theorem ok_M_number {x1 : Int32} {x2 : Int32} {s : sg} {rv : (Int32 × sg)} (hf : M_number x1 x2 s = some rv) : mEnds [] 2 118 (0, [some (.ref 10), some (.int x1), some (.int x2), none], [], hp shM s, 0, 0) (some (.int rv.1), hp shM rv.2, 0, 0) := by
  unfold M_number at hf
  refine mEnds.stp 1 (pc' := 1) (l' := [some (.ref 10), some (.int x1), some (.int x2), none]) (st' := [.ref 10]) (fun _ => rfl) ?_
  refine t_gi (rfl : mfetch 118 1 = some (1, .getfield 57, 3, 5, 10, 0)) rfl rfl ?_
  by_cases hc1 : s 10 10 = 0
  · rw [if_pos hc1] at hf
    refine t_jF (rfl : mfetch 118 4 = some (4, .ifCond .ne 16, 3, 0, 0, 0)) (k_ne' hc1) ?_
    refine mEnds.stp 1 (pc' := 8) (l' := [some (.ref 10), some (.int x1), some (.int x2), none]) (st' := [.ref 10]) (fun _ => rfl) ?_
    refine t_gi (rfl : mfetch 118 8 = some (8, .getfield 66, 3, 5, 14, 0)) rfl rfl ?_
    refine mEnds.stp 1 (pc' := 12) (l' := [some (.ref 10), some (.int x1), some (.int x2), none]) (st' := [.int (nI 2), .int (s 10 14)]) (fun _ => rfl) ?_
    by_cases hc2 : s 10 14 = nI 2
    · rw [if_pos hc2] at hf
      refine t_cT (t := 20) (rfl : mfetch 118 12 = some (12, .if_icmp .eq 8, 3, 0, 0, 0)) rfl (k_eq hc2) ?_
      refine mEnds.cut (l := [some (.ref 10), some (.int x1), some (.int x2), none]) ⟨rfl, ⟨rfl, ⟨rfl, trivial⟩⟩⟩ ?_
      exact ok_M_number_20 hf
    · rw [if_neg hc2] at hf
      refine t_cF (rfl : mfetch 118 12 = some (12, .if_icmp .eq 8, 3, 0, 0, 0)) (k_eq' hc2) ?_
      refine mEnds.stp 2 (pc' := 17) (l' := [some (.ref 10), some (.int x1), some (.int x2), none]) (st' := [.int (nI 2), .ref 10]) (fun _ => rfl) ?_
      obtain ⟨s1, hs1, hf⟩ := ob hf
      refine t_cv (as := [.int (nI 2)]) (st := []) (rfl : mfetch 118 17 = some (17, .invokevirtual 87, 3, 115, 0, 0)) rfl rfl rfl rfl rfl ((ok_M_fails hs1).deep 1) ?_
      refine mEnds.cut (l := [some (.ref 10), some (.int x1), some (.int x2), none]) ⟨rfl, ⟨rfl, ⟨rfl, trivial⟩⟩⟩ ?_
      exact ok_M_number_20 hf
  · rw [if_neg hc1] at hf
    refine t_jT (t := 20) (rfl : mfetch 118 4 = some (4, .ifCond .ne 16, 3, 0, 0, 0)) rfl (k_ne hc1) ?_
    refine mEnds.cut (l := [some (.ref 10), some (.int x1), some (.int x2), none]) ⟨rfl, ⟨rfl, ⟨rfl, trivial⟩⟩⟩ ?_
    exact ok_M_number_20 hf
def M_readTongue_74 (x1 : Int32) (x2 : Int32) (y0 : Int32) (s : sg) : Option sg :=
  (some (up s 10 6 y0)).bind fun s1 =>
  (midx ((nI 18) + x2) 52).bind fun j1 =>
  (some (up s1 12 j1 (x1 + (nI 1)))).bind fun s2 =>
  (M_number (nI 0) (nI 99) s2).bind fun v1 =>
  (midx ((nI 24) + x2) 52).bind fun j2 =>
  (some (up v1.2 12 j2 v1.1)).bind fun s3 =>
  some s3
set_option maxRecDepth 100000 in
theorem ok_M_readTongue_74 {x1 : Int32} {x2 : Int32} {y0 : Int32} {s : sg} {rv : sg} (hf : M_readTongue_74 x1 x2 y0 s = some rv) : mEnds [] 3 119 (74, [some (.ref 10), some (.int x1), some (.int x2)], [.int y0, .ref 10], hp shM s, 0, 0) (none, hp shM rv, 0, 0) := by
  unfold M_readTongue_74 at hf
  obtain ⟨s1, hs1, hf⟩ := ob hf
  refine t_pi (rfl : mfetch 119 74 = some (74, .putfield 100, 3, 5, 6, 0)) rfl rfl rfl rfl hs1 ?_
  refine mEnds.stp 1 (pc' := 78) (l' := [some (.ref 10), some (.int x1), some (.int x2)]) (st' := [.ref 10]) (fun _ => rfl) ?_
  refine t_gr (rfl : mfetch 119 78 = some (78, .getfield 13, 3, 5, 2, 0)) rfl rfl ?_
  refine mEnds.stp 6 (pc' := 88) (l' := [some (.ref 10), some (.int x1), some (.int x2)]) (st' := [.int (x1 + (nI 1)), .int ((nI 18) + x2), .ref 12]) (fun _ => rfl) ?_
  obtain ⟨j1, hj1, hf⟩ := ob hf
  obtain ⟨s2, hs2, hf⟩ := ob hf
  refine t_is (rfl : mfetch 119 88 = some (88, .iastore, 1, 0, 0, 0)) rfl rfl hj1 hs2 ?_
  refine mEnds.stp 1 (pc' := 90) (l' := [some (.ref 10), some (.int x1), some (.int x2)]) (st' := [.ref 10]) (fun _ => rfl) ?_
  refine t_gr (rfl : mfetch 119 90 = some (90, .getfield 13, 3, 5, 2, 0)) rfl rfl ?_
  refine mEnds.stp 6 (pc' := 101) (l' := [some (.ref 10), some (.int x1), some (.int x2)]) (st' := [.int (nI 99), .int (nI 0), .ref 10, .int ((nI 24) + x2), .ref 12]) (fun _ => rfl) ?_
  obtain ⟨v1, hv1, hf⟩ := ob hf
  refine t_cv (as := [.int (nI 0), .int (nI 99)]) (st := [.int ((nI 24) + x2), .ref 12]) (rfl : mfetch 119 101 = some (101, .invokevirtual 96, 3, 118, 0, 0)) rfl rfl rfl rfl rfl (ok_M_number hv1) ?_
  obtain ⟨j2, hj2, hf⟩ := ob hf
  obtain ⟨s3, hs3, hf⟩ := ob hf
  refine t_is (rfl : mfetch 119 104 = some (104, .iastore, 1, 0, 0, 0)) rfl rfl hj2 hs3 ?_
  cases hf; exact mEnds.rt (fun _ => rfl)
def M_readTongue_50 (x1 : Int32) (s : sg) : Option sg :=
  (M_number (nI 0) (nI 5) s).bind fun v1 =>
  if v1.2 10 6 < v1.1 then
    M_readTongue_74 x1 v1.1 v1.1 v1.2
  else
    M_readTongue_74 x1 v1.1 (v1.2 10 6) v1.2
set_option maxRecDepth 100000 in
theorem ok_M_readTongue_50 {x1 : Int32} {s : sg} {rv : sg} (hf : M_readTongue_50 x1 s = some rv) : mEnds [] 3 119 (50, [some (.ref 10), some (.int x1), none], [], hp shM s, 0, 0) (none, hp shM rv, 0, 0) := by
  unfold M_readTongue_50 at hf
  refine mEnds.stp 3 (pc' := 53) (l' := [some (.ref 10), some (.int x1), none]) (st' := [.int (nI 5), .int (nI 0), .ref 10]) (fun _ => rfl) ?_
  obtain ⟨v1, hv1, hf⟩ := ob hf
  refine t_cv (as := [.int (nI 0), .int (nI 5)]) (st := []) (rfl : mfetch 119 53 = some (53, .invokevirtual 96, 3, 118, 0, 0)) rfl rfl rfl rfl rfl (ok_M_number hv1) ?_
  refine mEnds.stp 4 (pc' := 60) (l' := [some (.ref 10), some (.int x1), some (.int v1.1)]) (st' := [.ref 10, .int v1.1, .ref 10]) (fun _ => rfl) ?_
  refine t_gi (rfl : mfetch 119 60 = some (60, .getfield 100, 3, 5, 6, 0)) rfl rfl ?_
  by_cases hc1 : v1.2 10 6 < v1.1
  · rw [if_pos hc1] at hf
    refine t_cF (rfl : mfetch 119 63 = some (63, .if_icmp .le 7, 3, 0, 0, 0)) (k_le' hc1) ?_
    refine mEnds.stp 2 (pc' := 74) (l' := [some (.ref 10), some (.int x1), some (.int v1.1)]) (st' := [.int v1.1, .ref 10]) (fun _ => rfl) ?_
    refine mEnds.cut (l := [some (.ref 10), some (.int x1), some (.int v1.1)]) ⟨rfl, ⟨rfl, ⟨rfl, trivial⟩⟩⟩ ?_
    exact ok_M_readTongue_74 hf
  · rw [if_neg hc1] at hf
    refine t_cT (t := 70) (rfl : mfetch 119 63 = some (63, .if_icmp .le 7, 3, 0, 0, 0)) rfl (k_le hc1) ?_
    refine mEnds.stp 1 (pc' := 71) (l' := [some (.ref 10), some (.int x1), some (.int v1.1)]) (st' := [.ref 10, .ref 10]) (fun _ => rfl) ?_
    refine t_gi (rfl : mfetch 119 71 = some (71, .getfield 100, 3, 5, 6, 0)) rfl rfl ?_
    refine mEnds.cut (l := [some (.ref 10), some (.int x1), some (.int v1.1)]) ⟨rfl, ⟨rfl, ⟨rfl, trivial⟩⟩⟩ ?_
    exact ok_M_readTongue_74 hf
def M_readTongue (x1 : Int32) (s : sg) : Option sg :=
  if s 10 10 = 0 then
    if s 10 14 = nI 2 then
      (M_in ((s 10 15).toInt64) (0 : Int64) (5 : Int64) s).bind fun v1 =>
      if v1 = 0 then
        M_readTongue_50 x1 s
      else
        (midx ((nI 18) + (s 10 15)) 52).bind fun j1 =>
        if 0 < s 12 j1 then
          (M_fails (nI 4) s).bind fun s1 =>
          M_readTongue_50 x1 s1
        else
          M_readTongue_50 x1 s
    else
      M_readTongue_50 x1 s
  else
    M_readTongue_50 x1 s
set_option maxRecDepth 100000 in
theorem ok_M_readTongue {x1 : Int32} {s : sg} {rv : sg} (hf : M_readTongue x1 s = some rv) : mEnds [] 3 119 (0, [some (.ref 10), some (.int x1), none], [], hp shM s, 0, 0) (none, hp shM rv, 0, 0) := by
  unfold M_readTongue at hf
  refine mEnds.stp 1 (pc' := 1) (l' := [some (.ref 10), some (.int x1), none]) (st' := [.ref 10]) (fun _ => rfl) ?_
  refine t_gi (rfl : mfetch 119 1 = some (1, .getfield 57, 3, 5, 10, 0)) rfl rfl ?_
  by_cases hc1 : s 10 10 = 0
  · rw [if_pos hc1] at hf
    refine t_jF (rfl : mfetch 119 4 = some (4, .ifCond .ne 46, 3, 0, 0, 0)) (k_ne' hc1) ?_
    refine mEnds.stp 1 (pc' := 8) (l' := [some (.ref 10), some (.int x1), none]) (st' := [.ref 10]) (fun _ => rfl) ?_
    refine t_gi (rfl : mfetch 119 8 = some (8, .getfield 66, 3, 5, 14, 0)) rfl rfl ?_
    refine mEnds.stp 1 (pc' := 12) (l' := [some (.ref 10), some (.int x1), none]) (st' := [.int (nI 2), .int (s 10 14)]) (fun _ => rfl) ?_
    by_cases hc2 : s 10 14 = nI 2
    · rw [if_pos hc2] at hf
      refine t_cF (rfl : mfetch 119 12 = some (12, .if_icmp .ne 38, 3, 0, 0, 0)) (k_ne' hc2) ?_
      refine mEnds.stp 1 (pc' := 16) (l' := [some (.ref 10), some (.int x1), none]) (st' := [.ref 10]) (fun _ => rfl) ?_
      refine t_gi (rfl : mfetch 119 16 = some (16, .getfield 76, 3, 5, 15, 0)) rfl rfl ?_
      refine mEnds.stp 3 (pc' := 24) (l' := [some (.ref 10), some (.int x1), none]) (st' := [.long (5 : Int64), .long (0 : Int64), .long ((s 10 15).toInt64)]) (fun _ => rfl) ?_
      obtain ⟨v1, hv1, hf⟩ := ob hf
      refine t_cs (as := [.long ((s 10 15).toInt64), .long (0 : Int64), .long (5 : Int64)]) (st := []) (Or.inl rfl) (rfl : mfetch 119 24 = some (24, .invokestatic 49, 3, 111, 0, 0)) rfl rfl rfl ((ok_M_in hv1).deep 2) ?_
      by_cases hc3 : v1 = 0
      · rw [if_pos hc3] at hf
        refine t_jT (t := 50) (rfl : mfetch 119 27 = some (27, .ifCond .eq 23, 3, 0, 0, 0)) rfl (k_eq hc3) ?_
        refine mEnds.cut (l := [some (.ref 10), some (.int x1), none]) ⟨rfl, ⟨rfl, trivial⟩⟩ ?_
        exact ok_M_readTongue_50 hf
      · rw [if_neg hc3] at hf
        refine t_jF (rfl : mfetch 119 27 = some (27, .ifCond .eq 23, 3, 0, 0, 0)) (k_eq' hc3) ?_
        refine mEnds.stp 1 (pc' := 31) (l' := [some (.ref 10), some (.int x1), none]) (st' := [.ref 10]) (fun _ => rfl) ?_
        refine t_gr (rfl : mfetch 119 31 = some (31, .getfield 13, 3, 5, 2, 0)) rfl rfl ?_
        refine mEnds.stp 2 (pc' := 37) (l' := [some (.ref 10), some (.int x1), none]) (st' := [.ref 10, .int (nI 18), .ref 12]) (fun _ => rfl) ?_
        refine t_gi (rfl : mfetch 119 37 = some (37, .getfield 76, 3, 5, 15, 0)) rfl rfl ?_
        refine mEnds.stp 1 (pc' := 41) (l' := [some (.ref 10), some (.int x1), none]) (st' := [.int ((nI 18) + (s 10 15)), .ref 12]) (fun _ => rfl) ?_
        obtain ⟨j1, hj1, hf⟩ := ob hf
        refine t_ia (rfl : mfetch 119 41 = some (41, .iaload, 1, 0, 0, 0)) rfl rfl hj1 ?_
        by_cases hc4 : 0 < s 12 j1
        · rw [if_pos hc4] at hf
          refine t_jF (rfl : mfetch 119 42 = some (42, .ifCond .le 8, 3, 0, 0, 0)) (k_le' hc4) ?_
          refine mEnds.stp 2 (pc' := 47) (l' := [some (.ref 10), some (.int x1), none]) (st' := [.int (nI 4), .ref 10]) (fun _ => rfl) ?_
          obtain ⟨s1, hs1, hf⟩ := ob hf
          refine t_cv (as := [.int (nI 4)]) (st := []) (rfl : mfetch 119 47 = some (47, .invokevirtual 87, 3, 115, 0, 0)) rfl rfl rfl rfl rfl ((ok_M_fails hs1).deep 2) ?_
          refine mEnds.cut (l := [some (.ref 10), some (.int x1), none]) ⟨rfl, ⟨rfl, trivial⟩⟩ ?_
          exact ok_M_readTongue_50 hf
        · rw [if_neg hc4] at hf
          refine t_jT (t := 50) (rfl : mfetch 119 42 = some (42, .ifCond .le 8, 3, 0, 0, 0)) rfl (k_le hc4) ?_
          refine mEnds.cut (l := [some (.ref 10), some (.int x1), none]) ⟨rfl, ⟨rfl, trivial⟩⟩ ?_
          exact ok_M_readTongue_50 hf
    · rw [if_neg hc2] at hf
      refine t_cT (t := 50) (rfl : mfetch 119 12 = some (12, .if_icmp .ne 38, 3, 0, 0, 0)) rfl (k_ne hc2) ?_
      refine mEnds.cut (l := [some (.ref 10), some (.int x1), none]) ⟨rfl, ⟨rfl, trivial⟩⟩ ?_
      exact ok_M_readTongue_50 hf
  · rw [if_neg hc1] at hf
    refine t_jT (t := 50) (rfl : mfetch 119 4 = some (4, .ifCond .ne 46, 3, 0, 0, 0)) rfl (k_ne hc1) ?_
    refine mEnds.cut (l := [some (.ref 10), some (.int x1), none]) ⟨rfl, ⟨rfl, trivial⟩⟩ ?_
    exact ok_M_readTongue_50 hf
def M_readWall_78 (x1 : Int32) (y0 : Int32) (s : sg) : Option sg :=
  (some (up s 10 6 y0)).bind fun s1 =>
  (some (up s1 10 4 ((s1 10 4) ||| ((nI 1) <<< (x1 &&& 31))))).bind fun s2 =>
  (M_number (nI 0) (nI 9) s2).bind fun v1 =>
  (midx ((nI 36) + x1) 52).bind fun j1 =>
  (some (up v1.2 12 j1 (v1.1 - (nI 2)))).bind fun s3 =>
  some s3
set_option maxRecDepth 100000 in
theorem ok_M_readWall_78 {x1 : Int32} {y0 : Int32} {s : sg} {rv : sg} (hf : M_readWall_78 x1 y0 s = some rv) : mEnds [] 3 120 (78, [some (.ref 10), some (.int x1)], [.int y0, .ref 10], hp shM s, 0, 0) (none, hp shM rv, 0, 0) := by
  unfold M_readWall_78 at hf
  obtain ⟨s1, hs1, hf⟩ := ob hf
  refine t_pi (rfl : mfetch 120 78 = some (78, .putfield 100, 3, 5, 6, 0)) rfl rfl rfl rfl hs1 ?_
  refine mEnds.stp 2 (pc' := 83) (l' := [some (.ref 10), some (.int x1)]) (st' := [.ref 10, .ref 10]) (fun _ => rfl) ?_
  refine t_gi (rfl : mfetch 120 83 = some (83, .getfield 105, 3, 5, 4, 0)) rfl rfl ?_
  refine mEnds.stp 4 (pc' := 90) (l' := [some (.ref 10), some (.int x1)]) (st' := [.int ((s1 10 4) ||| ((nI 1) <<< (x1 &&& 31))), .ref 10]) (fun _ => rfl) ?_
  obtain ⟨s2, hs2, hf⟩ := ob hf
  refine t_pi (rfl : mfetch 120 90 = some (90, .putfield 105, 3, 5, 4, 0)) rfl rfl rfl rfl hs2 ?_
  refine mEnds.stp 1 (pc' := 94) (l' := [some (.ref 10), some (.int x1)]) (st' := [.ref 10]) (fun _ => rfl) ?_
  refine t_gr (rfl : mfetch 120 94 = some (94, .getfield 13, 3, 5, 2, 0)) rfl rfl ?_
  refine mEnds.stp 6 (pc' := 105) (l' := [some (.ref 10), some (.int x1)]) (st' := [.int (nI 9), .int (nI 0), .ref 10, .int ((nI 36) + x1), .ref 12]) (fun _ => rfl) ?_
  obtain ⟨v1, hv1, hf⟩ := ob hf
  refine t_cv (as := [.int (nI 0), .int (nI 9)]) (st := [.int ((nI 36) + x1), .ref 12]) (rfl : mfetch 120 105 = some (105, .invokevirtual 96, 3, 118, 0, 0)) rfl rfl rfl rfl rfl (ok_M_number hv1) ?_
  refine mEnds.stp 2 (pc' := 110) (l' := [some (.ref 10), some (.int x1)]) (st' := [.int (v1.1 - (nI 2)), .int ((nI 36) + x1), .ref 12]) (fun _ => rfl) ?_
  obtain ⟨j1, hj1, hf⟩ := ob hf
  obtain ⟨s3, hs3, hf⟩ := ob hf
  refine t_is (rfl : mfetch 120 110 = some (110, .iastore, 1, 0, 0, 0)) rfl rfl hj1 hs3 ?_
  cases hf; exact mEnds.rt (fun _ => rfl)
def M_readWall_50 (s : sg) : Option sg :=
  (M_number (nI 0) (nI 4) s).bind fun v1 =>
  if v1.2 10 6 < v1.1 + (nI 1) then
    M_readWall_78 v1.1 (v1.1 + (nI 1)) v1.2
  else
    M_readWall_78 v1.1 (v1.2 10 6) v1.2
set_option maxRecDepth 100000 in
theorem ok_M_readWall_50 {s : sg} {rv : sg} (hf : M_readWall_50 s = some rv) : mEnds [] 3 120 (50, [some (.ref 10), none], [], hp shM s, 0, 0) (none, hp shM rv, 0, 0) := by
  unfold M_readWall_50 at hf
  refine mEnds.stp 3 (pc' := 53) (l' := [some (.ref 10), none]) (st' := [.int (nI 4), .int (nI 0), .ref 10]) (fun _ => rfl) ?_
  obtain ⟨v1, hv1, hf⟩ := ob hf
  refine t_cv (as := [.int (nI 0), .int (nI 4)]) (st := []) (rfl : mfetch 120 53 = some (53, .invokevirtual 96, 3, 118, 0, 0)) rfl rfl rfl rfl rfl (ok_M_number hv1) ?_
  refine mEnds.stp 6 (pc' := 62) (l' := [some (.ref 10), some (.int v1.1)]) (st' := [.ref 10, .int (v1.1 + (nI 1)), .ref 10]) (fun _ => rfl) ?_
  refine t_gi (rfl : mfetch 120 62 = some (62, .getfield 100, 3, 5, 6, 0)) rfl rfl ?_
  by_cases hc1 : v1.2 10 6 < v1.1 + (nI 1)
  · rw [if_pos hc1] at hf
    refine t_cF (rfl : mfetch 120 65 = some (65, .if_icmp .le 9, 3, 0, 0, 0)) (k_le' hc1) ?_
    refine mEnds.stp 4 (pc' := 78) (l' := [some (.ref 10), some (.int v1.1)]) (st' := [.int (v1.1 + (nI 1)), .ref 10]) (fun _ => rfl) ?_
    refine mEnds.cut (l := [some (.ref 10), some (.int v1.1)]) ⟨rfl, ⟨rfl, trivial⟩⟩ ?_
    exact ok_M_readWall_78 hf
  · rw [if_neg hc1] at hf
    refine t_cT (t := 74) (rfl : mfetch 120 65 = some (65, .if_icmp .le 9, 3, 0, 0, 0)) rfl (k_le hc1) ?_
    refine mEnds.stp 1 (pc' := 75) (l' := [some (.ref 10), some (.int v1.1)]) (st' := [.ref 10, .ref 10]) (fun _ => rfl) ?_
    refine t_gi (rfl : mfetch 120 75 = some (75, .getfield 100, 3, 5, 6, 0)) rfl rfl ?_
    refine mEnds.cut (l := [some (.ref 10), some (.int v1.1)]) ⟨rfl, ⟨rfl, trivial⟩⟩ ?_
    exact ok_M_readWall_78 hf
def M_readWall (s : sg) : Option sg :=
  if s 10 10 = 0 then
    if s 10 14 = nI 2 then
      (M_in ((s 10 15).toInt64) (0 : Int64) (4 : Int64) s).bind fun v1 =>
      if v1 = 0 then
        M_readWall_50 s
      else
        if ((s 10 4) >>> ((s 10 15) &&& 31)) &&& (nI 1) = nI 1 then
          (M_fails (nI 4) s).bind fun s1 =>
          M_readWall_50 s1
        else
          M_readWall_50 s
    else
      M_readWall_50 s
  else
    M_readWall_50 s
set_option maxRecDepth 100000 in
theorem ok_M_readWall {s : sg} {rv : sg} (hf : M_readWall s = some rv) : mEnds [] 3 120 (0, [some (.ref 10), none], [], hp shM s, 0, 0) (none, hp shM rv, 0, 0) := by
  unfold M_readWall at hf
  refine mEnds.stp 1 (pc' := 1) (l' := [some (.ref 10), none]) (st' := [.ref 10]) (fun _ => rfl) ?_
  refine t_gi (rfl : mfetch 120 1 = some (1, .getfield 57, 3, 5, 10, 0)) rfl rfl ?_
  by_cases hc1 : s 10 10 = 0
  · rw [if_pos hc1] at hf
    refine t_jF (rfl : mfetch 120 4 = some (4, .ifCond .ne 46, 3, 0, 0, 0)) (k_ne' hc1) ?_
    refine mEnds.stp 1 (pc' := 8) (l' := [some (.ref 10), none]) (st' := [.ref 10]) (fun _ => rfl) ?_
    refine t_gi (rfl : mfetch 120 8 = some (8, .getfield 66, 3, 5, 14, 0)) rfl rfl ?_
    refine mEnds.stp 1 (pc' := 12) (l' := [some (.ref 10), none]) (st' := [.int (nI 2), .int (s 10 14)]) (fun _ => rfl) ?_
    by_cases hc2 : s 10 14 = nI 2
    · rw [if_pos hc2] at hf
      refine t_cF (rfl : mfetch 120 12 = some (12, .if_icmp .ne 38, 3, 0, 0, 0)) (k_ne' hc2) ?_
      refine mEnds.stp 1 (pc' := 16) (l' := [some (.ref 10), none]) (st' := [.ref 10]) (fun _ => rfl) ?_
      refine t_gi (rfl : mfetch 120 16 = some (16, .getfield 76, 3, 5, 15, 0)) rfl rfl ?_
      refine mEnds.stp 3 (pc' := 24) (l' := [some (.ref 10), none]) (st' := [.long (4 : Int64), .long (0 : Int64), .long ((s 10 15).toInt64)]) (fun _ => rfl) ?_
      obtain ⟨v1, hv1, hf⟩ := ob hf
      refine t_cs (as := [.long ((s 10 15).toInt64), .long (0 : Int64), .long (4 : Int64)]) (st := []) (Or.inl rfl) (rfl : mfetch 120 24 = some (24, .invokestatic 49, 3, 111, 0, 0)) rfl rfl rfl ((ok_M_in hv1).deep 2) ?_
      by_cases hc3 : v1 = 0
      · rw [if_pos hc3] at hf
        refine t_jT (t := 50) (rfl : mfetch 120 27 = some (27, .ifCond .eq 23, 3, 0, 0, 0)) rfl (k_eq hc3) ?_
        refine mEnds.cut (l := [some (.ref 10), none]) ⟨rfl, trivial⟩ ?_
        exact ok_M_readWall_50 hf
      · rw [if_neg hc3] at hf
        refine t_jF (rfl : mfetch 120 27 = some (27, .ifCond .eq 23, 3, 0, 0, 0)) (k_eq' hc3) ?_
        refine mEnds.stp 1 (pc' := 31) (l' := [some (.ref 10), none]) (st' := [.ref 10]) (fun _ => rfl) ?_
        refine t_gi (rfl : mfetch 120 31 = some (31, .getfield 105, 3, 5, 4, 0)) rfl rfl ?_
        refine mEnds.stp 1 (pc' := 35) (l' := [some (.ref 10), none]) (st' := [.ref 10, .int (s 10 4)]) (fun _ => rfl) ?_
        refine t_gi (rfl : mfetch 120 35 = some (35, .getfield 76, 3, 5, 15, 0)) rfl rfl ?_
        refine mEnds.stp 4 (pc' := 42) (l' := [some (.ref 10), none]) (st' := [.int (nI 1), .int (((s 10 4) >>> ((s 10 15) &&& 31)) &&& (nI 1))]) (fun _ => rfl) ?_
        by_cases hc4 : ((s 10 4) >>> ((s 10 15) &&& 31)) &&& (nI 1) = nI 1
        · rw [if_pos hc4] at hf
          refine t_cF (rfl : mfetch 120 42 = some (42, .if_icmp .ne 8, 3, 0, 0, 0)) (k_ne' hc4) ?_
          refine mEnds.stp 2 (pc' := 47) (l' := [some (.ref 10), none]) (st' := [.int (nI 4), .ref 10]) (fun _ => rfl) ?_
          obtain ⟨s1, hs1, hf⟩ := ob hf
          refine t_cv (as := [.int (nI 4)]) (st := []) (rfl : mfetch 120 47 = some (47, .invokevirtual 87, 3, 115, 0, 0)) rfl rfl rfl rfl rfl ((ok_M_fails hs1).deep 2) ?_
          refine mEnds.cut (l := [some (.ref 10), none]) ⟨rfl, trivial⟩ ?_
          exact ok_M_readWall_50 hf
        · rw [if_neg hc4] at hf
          refine t_cT (t := 50) (rfl : mfetch 120 42 = some (42, .if_icmp .ne 8, 3, 0, 0, 0)) rfl (k_ne hc4) ?_
          refine mEnds.cut (l := [some (.ref 10), none]) ⟨rfl, trivial⟩ ?_
          exact ok_M_readWall_50 hf
    · rw [if_neg hc2] at hf
      refine t_cT (t := 50) (rfl : mfetch 120 12 = some (12, .if_icmp .ne 38, 3, 0, 0, 0)) rfl (k_ne hc2) ?_
      refine mEnds.cut (l := [some (.ref 10), none]) ⟨rfl, trivial⟩ ?_
      exact ok_M_readWall_50 hf
  · rw [if_neg hc1] at hf
    refine t_jT (t := 50) (rfl : mfetch 120 4 = some (4, .ifCond .ne 46, 3, 0, 0, 0)) rfl (k_ne hc1) ?_
    refine mEnds.cut (l := [some (.ref 10), none]) ⟨rfl, trivial⟩ ?_
    exact ok_M_readWall_50 hf
end Q31a
section Q31b
def M_readOut_2 : Nat → Int32 → sg → Option sg
  | 0, _, _ => none
  | fu + 1, x1, s =>
  if s 10 10 = 0 then
    if s 10 14 = nI 2 then
      if x1 = nI 8 then
        (M_fails (nI 5) s).bind fun s2 =>
        some s2
      else
        (M_number (nI 0) (nI 99) s).bind fun v1 =>
        (midx ((nI 41) + x1) 52).bind fun j1 =>
        (some (up v1.2 12 j1 (v1.1 - (nI 10)))).bind fun s1 =>
        M_readOut_2 fu (x1 + (nI 1)) s1
    else
      some s
  else
    some s
set_option maxRecDepth 100000 in
theorem ok_M_readOut_2 : ∀ (fu : Nat) (x1 : Int32) (s : sg) (rv : sg), M_readOut_2 fu x1 s = some rv → mEnds [] 3 121 (2, [some (.ref 10), some (.int x1)], [], hp shM s, 0, 0) (none, hp shM rv, 0, 0)
  | 0, _, _, _, hf => by cases hf
  | fu + 1, x1, s, rv, hf => by
    rw [M_readOut_2] at hf
    refine mEnds.stp 1 (pc' := 3) (l' := [some (.ref 10), some (.int x1)]) (st' := [.ref 10]) (fun _ => rfl) ?_
    refine t_gi (rfl : mfetch 121 3 = some (3, .getfield 57, 3, 5, 10, 0)) rfl rfl ?_
    by_cases hc1 : s 10 10 = 0
    · rw [if_pos hc1] at hf
      refine t_jF (rfl : mfetch 121 6 = some (6, .ifCond .ne 48, 3, 0, 0, 0)) (k_ne' hc1) ?_
      refine mEnds.stp 1 (pc' := 10) (l' := [some (.ref 10), some (.int x1)]) (st' := [.ref 10]) (fun _ => rfl) ?_
      refine t_gi (rfl : mfetch 121 10 = some (10, .getfield 66, 3, 5, 14, 0)) rfl rfl ?_
      refine mEnds.stp 1 (pc' := 14) (l' := [some (.ref 10), some (.int x1)]) (st' := [.int (nI 2), .int (s 10 14)]) (fun _ => rfl) ?_
      by_cases hc2 : s 10 14 = nI 2
      · rw [if_pos hc2] at hf
        refine t_cF (rfl : mfetch 121 14 = some (14, .if_icmp .ne 40, 3, 0, 0, 0)) (k_ne' hc2) ?_
        refine mEnds.stp 2 (pc' := 20) (l' := [some (.ref 10), some (.int x1)]) (st' := [.int (nI 8), .int x1]) (fun _ => rfl) ?_
        by_cases hc3 : x1 = nI 8
        · rw [if_pos hc3] at hf
          refine t_cF (rfl : mfetch 121 20 = some (20, .if_icmp .ne 9, 3, 0, 0, 0)) (k_ne' hc3) ?_
          refine mEnds.stp 2 (pc' := 25) (l' := [some (.ref 10), some (.int x1)]) (st' := [.int (nI 5), .ref 10]) (fun _ => rfl) ?_
          obtain ⟨s2, hs2, hf⟩ := ob hf
          refine t_cv (as := [.int (nI 5)]) (st := []) (rfl : mfetch 121 25 = some (25, .invokevirtual 87, 3, 115, 0, 0)) rfl rfl rfl rfl rfl ((ok_M_fails hs2).deep 2) ?_
          cases hf; exact mEnds.rt (fun _ => rfl)
        · rw [if_neg hc3] at hf
          refine t_cT (t := 29) (rfl : mfetch 121 20 = some (20, .if_icmp .ne 9, 3, 0, 0, 0)) rfl (k_ne hc3) ?_
          refine mEnds.stp 1 (pc' := 30) (l' := [some (.ref 10), some (.int x1)]) (st' := [.ref 10]) (fun _ => rfl) ?_
          refine t_gr (rfl : mfetch 121 30 = some (30, .getfield 13, 3, 5, 2, 0)) rfl rfl ?_
          refine mEnds.stp 6 (pc' := 41) (l' := [some (.ref 10), some (.int x1)]) (st' := [.int (nI 99), .int (nI 0), .ref 10, .int ((nI 41) + x1), .ref 12]) (fun _ => rfl) ?_
          obtain ⟨v1, hv1, hf⟩ := ob hf
          refine t_cv (as := [.int (nI 0), .int (nI 99)]) (st := [.int ((nI 41) + x1), .ref 12]) (rfl : mfetch 121 41 = some (41, .invokevirtual 96, 3, 118, 0, 0)) rfl rfl rfl rfl rfl (ok_M_number hv1) ?_
          refine mEnds.stp 2 (pc' := 47) (l' := [some (.ref 10), some (.int x1)]) (st' := [.int (v1.1 - (nI 10)), .int ((nI 41) + x1), .ref 12]) (fun _ => rfl) ?_
          obtain ⟨j1, hj1, hf⟩ := ob hf
          obtain ⟨s1, hs1, hf⟩ := ob hf
          refine t_is (rfl : mfetch 121 47 = some (47, .iastore, 1, 0, 0, 0)) rfl rfl hj1 hs1 ?_
          refine mEnds.stp 2 (pc' := 2) (l' := [some (.ref 10), some (.int (x1 + (nI 1)))]) (st' := []) (fun _ => rfl) ?_
          refine mEnds.cut (l := [some (.ref 10), some (.int (x1 + (nI 1)))]) ⟨rfl, ⟨rfl, trivial⟩⟩ ?_
          exact ok_M_readOut_2 fu (x1 + (nI 1)) s1 _ hf
      · rw [if_neg hc2] at hf
        refine t_cT (t := 54) (rfl : mfetch 121 14 = some (14, .if_icmp .ne 40, 3, 0, 0, 0)) rfl (k_ne hc2) ?_
        cases hf; exact mEnds.rt (fun _ => rfl)
    · rw [if_neg hc1] at hf
      refine t_jT (t := 54) (rfl : mfetch 121 6 = some (6, .ifCond .ne 48, 3, 0, 0, 0)) rfl (k_ne hc1) ?_
      cases hf; exact mEnds.rt (fun _ => rfl)
def M_readOut (s : sg) : Option sg :=
  M_readOut_2 FU (nI 0) s
set_option maxRecDepth 100000 in
theorem ok_M_readOut {s : sg} {rv : sg} (hf : M_readOut s = some rv) : mEnds [] 3 121 (0, [some (.ref 10), none], [], hp shM s, 0, 0) (none, hp shM rv, 0, 0) := by
  unfold M_readOut at hf
  refine mEnds.stp 2 (pc' := 2) (l' := [some (.ref 10), some (.int (nI 0))]) (st' := []) (fun _ => rfl) ?_
  refine mEnds.cut (l := [some (.ref 10), some (.int (nI 0))]) ⟨rfl, ⟨rfl, trivial⟩⟩ ?_
  exact ok_M_readOut_2 FU (nI 0) s _ hf
def M_readMore (x1 : Int32) (s : sg) : Option sg :=
  if nI 3 < x1 then
    if x1 = nI 4 then
      (M_number (nI 0) (nI 99) s).bind fun v3 =>
      (midx (s 10 3) 52).bind fun j1 =>
      (some (up v3.2 12 j1 v3.1)).bind fun s3 =>
      (M_number (nI 0) (nI 9) s3).bind fun v4 =>
      (midx ((nI 6) + (s3 10 3)) 52).bind fun j2 =>
      (some (up v4.2 12 j2 v4.1)).bind fun s4 =>
      (M_number (nI 0) (nI 9) s4).bind fun v5 =>
      (midx ((nI 12) + (s4 10 3)) 52).bind fun j3 =>
      (some (up v5.2 12 j3 v5.1)).bind fun s5 =>
      (some (up s5 10 3 ((s5 10 3) + (nI 1)))).bind fun s6 =>
      some s6
    else
      if x1 = nI 5 then
        (M_readWall s).bind fun s2 =>
        some s2
      else
        (M_readOut s).bind fun s1 =>
        some s1
  else
    (M_readTongue x1 s).bind fun s7 =>
    some s7
set_option maxRecDepth 100000 in
theorem ok_M_readMore {x1 : Int32} {s : sg} {rv : sg} (hf : M_readMore x1 s = some rv) : mEnds [] 4 122 (0, [some (.ref 10), some (.int x1)], [], hp shM s, 0, 0) (none, hp shM rv, 0, 0) := by
  unfold M_readMore at hf
  refine mEnds.stp 2 (pc' := 2) (l' := [some (.ref 10), some (.int x1)]) (st' := [.int (nI 3), .int x1]) (fun _ => rfl) ?_
  by_cases hc1 : nI 3 < x1
  · rw [if_pos hc1] at hf
    refine t_cT (t := 13) (rfl : mfetch 122 2 = some (2, .if_icmp .gt 11, 3, 0, 0, 0)) rfl (k_gt hc1) ?_
    refine mEnds.stp 2 (pc' := 15) (l' := [some (.ref 10), some (.int x1)]) (st' := [.int (nI 4), .int x1]) (fun _ => rfl) ?_
    by_cases hc2 : x1 = nI 4
    · rw [if_pos hc2] at hf
      refine t_cF (rfl : mfetch 122 15 = some (15, .if_icmp .ne 70, 3, 0, 0, 0)) (k_ne' hc2) ?_
      refine mEnds.stp 1 (pc' := 19) (l' := [some (.ref 10), some (.int x1)]) (st' := [.ref 10]) (fun _ => rfl) ?_
      refine t_gr (rfl : mfetch 122 19 = some (19, .getfield 13, 3, 5, 2, 0)) rfl rfl ?_
      refine mEnds.stp 1 (pc' := 23) (l' := [some (.ref 10), some (.int x1)]) (st' := [.ref 10, .ref 12]) (fun _ => rfl) ?_
      refine t_gi (rfl : mfetch 122 23 = some (23, .getfield 111, 3, 5, 3, 0)) rfl rfl ?_
      refine mEnds.stp 3 (pc' := 30) (l' := [some (.ref 10), some (.int x1)]) (st' := [.int (nI 99), .int (nI 0), .ref 10, .int (s 10 3), .ref 12]) (fun _ => rfl) ?_
      obtain ⟨v3, hv3, hf⟩ := ob hf
      refine t_cv (as := [.int (nI 0), .int (nI 99)]) (st := [.int (s 10 3), .ref 12]) (rfl : mfetch 122 30 = some (30, .invokevirtual 96, 3, 118, 0, 0)) rfl rfl rfl rfl rfl ((ok_M_number hv3).deep 1) ?_
      obtain ⟨j1, hj1, hf⟩ := ob hf
      obtain ⟨s3, hs3, hf⟩ := ob hf
      refine t_is (rfl : mfetch 122 33 = some (33, .iastore, 1, 0, 0, 0)) rfl rfl hj1 hs3 ?_
      refine mEnds.stp 1 (pc' := 35) (l' := [some (.ref 10), some (.int x1)]) (st' := [.ref 10]) (fun _ => rfl) ?_
      refine t_gr (rfl : mfetch 122 35 = some (35, .getfield 13, 3, 5, 2, 0)) rfl rfl ?_
      refine mEnds.stp 2 (pc' := 41) (l' := [some (.ref 10), some (.int x1)]) (st' := [.ref 10, .int (nI 6), .ref 12]) (fun _ => rfl) ?_
      refine t_gi (rfl : mfetch 122 41 = some (41, .getfield 111, 3, 5, 3, 0)) rfl rfl ?_
      refine mEnds.stp 4 (pc' := 49) (l' := [some (.ref 10), some (.int x1)]) (st' := [.int (nI 9), .int (nI 0), .ref 10, .int ((nI 6) + (s3 10 3)), .ref 12]) (fun _ => rfl) ?_
      obtain ⟨v4, hv4, hf⟩ := ob hf
      refine t_cv (as := [.int (nI 0), .int (nI 9)]) (st := [.int ((nI 6) + (s3 10 3)), .ref 12]) (rfl : mfetch 122 49 = some (49, .invokevirtual 96, 3, 118, 0, 0)) rfl rfl rfl rfl rfl ((ok_M_number hv4).deep 1) ?_
      obtain ⟨j2, hj2, hf⟩ := ob hf
      obtain ⟨s4, hs4, hf⟩ := ob hf
      refine t_is (rfl : mfetch 122 52 = some (52, .iastore, 1, 0, 0, 0)) rfl rfl hj2 hs4 ?_
      refine mEnds.stp 1 (pc' := 54) (l' := [some (.ref 10), some (.int x1)]) (st' := [.ref 10]) (fun _ => rfl) ?_
      refine t_gr (rfl : mfetch 122 54 = some (54, .getfield 13, 3, 5, 2, 0)) rfl rfl ?_
      refine mEnds.stp 2 (pc' := 60) (l' := [some (.ref 10), some (.int x1)]) (st' := [.ref 10, .int (nI 12), .ref 12]) (fun _ => rfl) ?_
      refine t_gi (rfl : mfetch 122 60 = some (60, .getfield 111, 3, 5, 3, 0)) rfl rfl ?_
      refine mEnds.stp 4 (pc' := 68) (l' := [some (.ref 10), some (.int x1)]) (st' := [.int (nI 9), .int (nI 0), .ref 10, .int ((nI 12) + (s4 10 3)), .ref 12]) (fun _ => rfl) ?_
      obtain ⟨v5, hv5, hf⟩ := ob hf
      refine t_cv (as := [.int (nI 0), .int (nI 9)]) (st := [.int ((nI 12) + (s4 10 3)), .ref 12]) (rfl : mfetch 122 68 = some (68, .invokevirtual 96, 3, 118, 0, 0)) rfl rfl rfl rfl rfl ((ok_M_number hv5).deep 1) ?_
      obtain ⟨j3, hj3, hf⟩ := ob hf
      obtain ⟨s5, hs5, hf⟩ := ob hf
      refine t_is (rfl : mfetch 122 71 = some (71, .iastore, 1, 0, 0, 0)) rfl rfl hj3 hs5 ?_
      refine mEnds.stp 2 (pc' := 74) (l' := [some (.ref 10), some (.int x1)]) (st' := [.ref 10, .ref 10]) (fun _ => rfl) ?_
      refine t_gi (rfl : mfetch 122 74 = some (74, .getfield 111, 3, 5, 3, 0)) rfl rfl ?_
      refine mEnds.stp 2 (pc' := 79) (l' := [some (.ref 10), some (.int x1)]) (st' := [.int ((s5 10 3) + (nI 1)), .ref 10]) (fun _ => rfl) ?_
      obtain ⟨s6, hs6, hf⟩ := ob hf
      refine t_pi (rfl : mfetch 122 79 = some (79, .putfield 111, 3, 5, 3, 0)) rfl rfl rfl rfl hs6 ?_
      refine mEnds.stp 1 (pc' := 101) (l' := [some (.ref 10), some (.int x1)]) (st' := []) (fun _ => rfl) ?_
      cases hf; exact mEnds.rt (fun _ => rfl)
    · rw [if_neg hc2] at hf
      refine t_cT (t := 85) (rfl : mfetch 122 15 = some (15, .if_icmp .ne 70, 3, 0, 0, 0)) rfl (k_ne hc2) ?_
      refine mEnds.stp 2 (pc' := 87) (l' := [some (.ref 10), some (.int x1)]) (st' := [.int (nI 5), .int x1]) (fun _ => rfl) ?_
      by_cases hc3 : x1 = nI 5
      · rw [if_pos hc3] at hf
        refine t_cF (rfl : mfetch 122 87 = some (87, .if_icmp .ne 10, 3, 0, 0, 0)) (k_ne' hc3) ?_
        refine mEnds.stp 1 (pc' := 91) (l' := [some (.ref 10), some (.int x1)]) (st' := [.ref 10]) (fun _ => rfl) ?_
        obtain ⟨s2, hs2, hf⟩ := ob hf
        refine t_cv (as := []) (st := []) (rfl : mfetch 122 91 = some (91, .invokevirtual 114, 3, 120, 0, 0)) rfl rfl rfl rfl rfl (ok_M_readWall hs2) ?_
        refine mEnds.stp 1 (pc' := 101) (l' := [some (.ref 10), some (.int x1)]) (st' := []) (fun _ => rfl) ?_
        cases hf; exact mEnds.rt (fun _ => rfl)
      · rw [if_neg hc3] at hf
        refine t_cT (t := 97) (rfl : mfetch 122 87 = some (87, .if_icmp .ne 10, 3, 0, 0, 0)) rfl (k_ne hc3) ?_
        refine mEnds.stp 1 (pc' := 98) (l' := [some (.ref 10), some (.int x1)]) (st' := [.ref 10]) (fun _ => rfl) ?_
        obtain ⟨s1, hs1, hf⟩ := ob hf
        refine t_cv (as := []) (st := []) (rfl : mfetch 122 98 = some (98, .invokevirtual 117, 3, 121, 0, 0)) rfl rfl rfl rfl rfl (ok_M_readOut hs1) ?_
        cases hf; exact mEnds.rt (fun _ => rfl)
  · rw [if_neg hc1] at hf
    refine t_cF (rfl : mfetch 122 2 = some (2, .if_icmp .gt 11, 3, 0, 0, 0)) (k_gt' hc1) ?_
    refine mEnds.stp 2 (pc' := 7) (l' := [some (.ref 10), some (.int x1)]) (st' := [.int x1, .ref 10]) (fun _ => rfl) ?_
    obtain ⟨s7, hs7, hf⟩ := ob hf
    refine t_cv (as := [.int x1]) (st := []) (rfl : mfetch 122 7 = some (7, .invokevirtual 108, 3, 119, 0, 0)) rfl rfl rfl rfl rfl (ok_M_readTongue hs7) ?_
    refine mEnds.stp 1 (pc' := 101) (l' := [some (.ref 10), some (.int x1)]) (st' := []) (fun _ => rfl) ?_
    cases hf; exact mEnds.rt (fun _ => rfl)
def M_readLine_119 (s : sg) : Option sg :=
  (M_step s).bind fun s1 =>
  some s1
set_option maxRecDepth 100000 in
theorem ok_M_readLine_119 {s : sg} {rv : sg} (hf : M_readLine_119 s = some rv) : mEnds [] 5 123 (119, [some (.ref 10), none], [], hp shM s, 0, 0) (none, hp shM rv, 0, 0) := by
  unfold M_readLine_119 at hf
  refine mEnds.stp 1 (pc' := 120) (l' := [some (.ref 10), none]) (st' := [.ref 10]) (fun _ => rfl) ?_
  obtain ⟨s1, hs1, hf⟩ := ob hf
  refine t_cv (as := []) (st := []) (rfl : mfetch 123 120 = some (120, .invokevirtual 91, 3, 117, 0, 0)) rfl rfl rfl rfl rfl ((ok_M_step hs1).deep 3) ?_
  cases hf; exact mEnds.rt (fun _ => rfl)
def M_readLine_79 (x1 : Int32) (y0 : Int32) (s : sg) : Option sg :=
  if y0 = 0 ∨ y0 = 1 then
    (some (up s 10 5 y0)).bind fun s1 =>
    (M_step s1).bind fun s2 =>
    if 0 < s2 10 10 then
      some s2
    else
      (M_readMore x1 s2).bind fun s3 =>
      if s3 10 10 = 0 then
        if s3 10 14 = nI 3 then
          M_readLine_119 s3
        else
          (M_fails (nI 2) s3).bind fun s4 =>
          M_readLine_119 s4
      else
        M_readLine_119 s3
  else none
set_option maxRecDepth 100000 in
theorem ok_M_readLine_79 {x1 : Int32} {y0 : Int32} {s : sg} {rv : sg} (hf : M_readLine_79 x1 y0 s = some rv) : mEnds [] 5 123 (79, [some (.ref 10), some (.int x1)], [.int y0, .ref 10], hp shM s, 0, 0) (none, hp shM rv, 0, 0) := by
  unfold M_readLine_79 at hf
  by_cases hc1 : y0 = 0 ∨ y0 = 1
  · rw [if_pos hc1] at hf
    obtain ⟨s1, hs1, hf⟩ := ob hf
    refine t_pi (rfl : mfetch 123 79 = some (79, .putfield 126, 3, 5, 5, 0)) rfl rfl rfl (z01 hc1) hs1 ?_
    refine mEnds.stp 1 (pc' := 83) (l' := [some (.ref 10), some (.int x1)]) (st' := [.ref 10]) (fun _ => rfl) ?_
    obtain ⟨s2, hs2, hf⟩ := ob hf
    refine t_cv (as := []) (st := []) (rfl : mfetch 123 83 = some (83, .invokevirtual 91, 3, 117, 0, 0)) rfl rfl rfl rfl rfl ((ok_M_step hs2).deep 3) ?_
    refine mEnds.stp 1 (pc' := 87) (l' := [some (.ref 10), some (.int x1)]) (st' := [.ref 10]) (fun _ => rfl) ?_
    refine t_gi (rfl : mfetch 123 87 = some (87, .getfield 57, 3, 5, 10, 0)) rfl rfl ?_
    by_cases hc2 : 0 < s2 10 10
    · rw [if_pos hc2] at hf
      refine t_jF (rfl : mfetch 123 90 = some (90, .ifCond .le 4, 3, 0, 0, 0)) (k_le' hc2) ?_
      cases hf; exact mEnds.rt (fun _ => rfl)
    · rw [if_neg hc2] at hf
      refine t_jT (t := 94) (rfl : mfetch 123 90 = some (90, .ifCond .le 4, 3, 0, 0, 0)) rfl (k_le hc2) ?_
      refine mEnds.stp 2 (pc' := 96) (l' := [some (.ref 10), some (.int x1)]) (st' := [.int x1, .ref 10]) (fun _ => rfl) ?_
      obtain ⟨s3, hs3, hf⟩ := ob hf
      refine t_cv (as := [.int x1]) (st := []) (rfl : mfetch 123 96 = some (96, .invokevirtual 130, 3, 122, 0, 0)) rfl rfl rfl rfl rfl (ok_M_readMore hs3) ?_
      refine mEnds.stp 1 (pc' := 100) (l' := [some (.ref 10), some (.int x1)]) (st' := [.ref 10]) (fun _ => rfl) ?_
      refine t_gi (rfl : mfetch 123 100 = some (100, .getfield 57, 3, 5, 10, 0)) rfl rfl ?_
      by_cases hc3 : s3 10 10 = 0
      · rw [if_pos hc3] at hf
        refine t_jF (rfl : mfetch 123 103 = some (103, .ifCond .ne 16, 3, 0, 0, 0)) (k_ne' hc3) ?_
        refine mEnds.stp 1 (pc' := 107) (l' := [some (.ref 10), some (.int x1)]) (st' := [.ref 10]) (fun _ => rfl) ?_
        refine t_gi (rfl : mfetch 123 107 = some (107, .getfield 66, 3, 5, 14, 0)) rfl rfl ?_
        refine mEnds.stp 1 (pc' := 111) (l' := [some (.ref 10), some (.int x1)]) (st' := [.int (nI 3), .int (s3 10 14)]) (fun _ => rfl) ?_
        by_cases hc4 : s3 10 14 = nI 3
        · rw [if_pos hc4] at hf
          refine t_cT (t := 119) (rfl : mfetch 123 111 = some (111, .if_icmp .eq 8, 3, 0, 0, 0)) rfl (k_eq hc4) ?_
          refine mEnds.cut (l := [some (.ref 10), none]) ⟨rfl, trivial⟩ ?_
          exact ok_M_readLine_119 hf
        · rw [if_neg hc4] at hf
          refine t_cF (rfl : mfetch 123 111 = some (111, .if_icmp .eq 8, 3, 0, 0, 0)) (k_eq' hc4) ?_
          refine mEnds.stp 2 (pc' := 116) (l' := [some (.ref 10), some (.int x1)]) (st' := [.int (nI 2), .ref 10]) (fun _ => rfl) ?_
          obtain ⟨s4, hs4, hf⟩ := ob hf
          refine t_cv (as := [.int (nI 2)]) (st := []) (rfl : mfetch 123 116 = some (116, .invokevirtual 87, 3, 115, 0, 0)) rfl rfl rfl rfl rfl ((ok_M_fails hs4).deep 4) ?_
          refine mEnds.cut (l := [some (.ref 10), none]) ⟨rfl, trivial⟩ ?_
          exact ok_M_readLine_119 hf
      · rw [if_neg hc3] at hf
        refine t_jT (t := 119) (rfl : mfetch 123 103 = some (103, .ifCond .ne 16, 3, 0, 0, 0)) rfl (k_ne hc3) ?_
        refine mEnds.cut (l := [some (.ref 10), none]) ⟨rfl, trivial⟩ ?_
        exact ok_M_readLine_119 hf
  · rw [if_neg hc1] at hf; cases hf
def M_readLine_74 (x1 : Int32) (s : sg) : Option sg :=
  M_readLine_79 x1 (nI 1) s
set_option maxRecDepth 100000 in
theorem ok_M_readLine_74 {x1 : Int32} {s : sg} {rv : sg} (hf : M_readLine_74 x1 s = some rv) : mEnds [] 5 123 (74, [some (.ref 10), some (.int x1)], [.ref 10], hp shM s, 0, 0) (none, hp shM rv, 0, 0) := by
  unfold M_readLine_74 at hf
  refine mEnds.stp 2 (pc' := 79) (l' := [some (.ref 10), some (.int x1)]) (st' := [.int (nI 1), .ref 10]) (fun _ => rfl) ?_
  refine mEnds.cut (l := [some (.ref 10), some (.int x1)]) ⟨rfl, ⟨rfl, trivial⟩⟩ ?_
  exact ok_M_readLine_79 hf
def M_readLine_60 (x1 : Int32) (s : sg) : Option sg :=
  if s 10 5 = 0 then
    if x1 = nI 6 then
      M_readLine_74 x1 s
    else
      M_readLine_79 x1 (nI 0) s
  else
    M_readLine_74 x1 s
set_option maxRecDepth 100000 in
theorem ok_M_readLine_60 {x1 : Int32} {s : sg} {rv : sg} (hf : M_readLine_60 x1 s = some rv) : mEnds [] 5 123 (60, [some (.ref 10), some (.int x1)], [], hp shM s, 0, 0) (none, hp shM rv, 0, 0) := by
  unfold M_readLine_60 at hf
  refine mEnds.stp 2 (pc' := 62) (l' := [some (.ref 10), some (.int x1)]) (st' := [.ref 10, .ref 10]) (fun _ => rfl) ?_
  refine t_gi (rfl : mfetch 123 62 = some (62, .getfield 126, 3, 5, 5, 0)) rfl rfl ?_
  by_cases hc1 : s 10 5 = 0
  · rw [if_pos hc1] at hf
    refine t_jF (rfl : mfetch 123 65 = some (65, .ifCond .ne 9, 3, 0, 0, 0)) (k_ne' hc1) ?_
    refine mEnds.stp 2 (pc' := 71) (l' := [some (.ref 10), some (.int x1)]) (st' := [.int (nI 6), .int x1, .ref 10]) (fun _ => rfl) ?_
    by_cases hc2 : x1 = nI 6
    · rw [if_pos hc2] at hf
      refine t_cF (rfl : mfetch 123 71 = some (71, .if_icmp .ne 7, 3, 0, 0, 0)) (k_ne' hc2) ?_
      refine mEnds.cut (l := [some (.ref 10), some (.int x1)]) ⟨rfl, ⟨rfl, trivial⟩⟩ ?_
      exact ok_M_readLine_74 hf
    · rw [if_neg hc2] at hf
      refine t_cT (t := 78) (rfl : mfetch 123 71 = some (71, .if_icmp .ne 7, 3, 0, 0, 0)) rfl (k_ne hc2) ?_
      refine mEnds.stp 1 (pc' := 79) (l' := [some (.ref 10), some (.int x1)]) (st' := [.int (nI 0), .ref 10]) (fun _ => rfl) ?_
      refine mEnds.cut (l := [some (.ref 10), some (.int x1)]) ⟨rfl, ⟨rfl, trivial⟩⟩ ?_
      exact ok_M_readLine_79 hf
  · rw [if_neg hc1] at hf
    refine t_jT (t := 74) (rfl : mfetch 123 65 = some (65, .ifCond .ne 9, 3, 0, 0, 0)) rfl (k_ne hc1) ?_
    refine mEnds.cut (l := [some (.ref 10), some (.int x1)]) ⟨rfl, ⟨rfl, trivial⟩⟩ ?_
    exact ok_M_readLine_74 hf
def M_readLine_42 (x1 : Int32) (s : sg) : Option sg :=
  if x1 = nI 6 then
    if s 10 5 = 0 then
      M_readLine_60 x1 s
    else
      (M_fails (nI 4) s).bind fun s1 =>
      M_readLine_60 x1 s1
  else
    M_readLine_60 x1 s
set_option maxRecDepth 100000 in
theorem ok_M_readLine_42 {x1 : Int32} {s : sg} {rv : sg} (hf : M_readLine_42 x1 s = some rv) : mEnds [] 5 123 (42, [some (.ref 10), some (.int x1)], [], hp shM s, 0, 0) (none, hp shM rv, 0, 0) := by
  unfold M_readLine_42 at hf
  refine mEnds.stp 2 (pc' := 45) (l' := [some (.ref 10), some (.int x1)]) (st' := [.int (nI 6), .int x1]) (fun _ => rfl) ?_
  by_cases hc1 : x1 = nI 6
  · rw [if_pos hc1] at hf
    refine t_cF (rfl : mfetch 123 45 = some (45, .if_icmp .ne 15, 3, 0, 0, 0)) (k_ne' hc1) ?_
    refine mEnds.stp 1 (pc' := 49) (l' := [some (.ref 10), some (.int x1)]) (st' := [.ref 10]) (fun _ => rfl) ?_
    refine t_gi (rfl : mfetch 123 49 = some (49, .getfield 126, 3, 5, 5, 0)) rfl rfl ?_
    by_cases hc2 : s 10 5 = 0
    · rw [if_pos hc2] at hf
      refine t_jT (t := 60) (rfl : mfetch 123 52 = some (52, .ifCond .eq 8, 3, 0, 0, 0)) rfl (k_eq hc2) ?_
      refine mEnds.cut (l := [some (.ref 10), some (.int x1)]) ⟨rfl, ⟨rfl, trivial⟩⟩ ?_
      exact ok_M_readLine_60 hf
    · rw [if_neg hc2] at hf
      refine t_jF (rfl : mfetch 123 52 = some (52, .ifCond .eq 8, 3, 0, 0, 0)) (k_eq' hc2) ?_
      refine mEnds.stp 2 (pc' := 57) (l' := [some (.ref 10), some (.int x1)]) (st' := [.int (nI 4), .ref 10]) (fun _ => rfl) ?_
      obtain ⟨s1, hs1, hf⟩ := ob hf
      refine t_cv (as := [.int (nI 4)]) (st := []) (rfl : mfetch 123 57 = some (57, .invokevirtual 87, 3, 115, 0, 0)) rfl rfl rfl rfl rfl ((ok_M_fails hs1).deep 4) ?_
      refine mEnds.cut (l := [some (.ref 10), some (.int x1)]) ⟨rfl, ⟨rfl, trivial⟩⟩ ?_
      exact ok_M_readLine_60 hf
  · rw [if_neg hc1] at hf
    refine t_cT (t := 60) (rfl : mfetch 123 45 = some (45, .if_icmp .ne 15, 3, 0, 0, 0)) rfl (k_ne hc1) ?_
    refine mEnds.cut (l := [some (.ref 10), some (.int x1)]) ⟨rfl, ⟨rfl, trivial⟩⟩ ?_
    exact ok_M_readLine_60 hf
def M_readLine (s : sg) : Option sg :=
  (M_nameHere s).bind fun v1 =>
  (M_in v1.toInt64 (0 : Int64) (6 : Int64) s).bind fun v2 =>
  if v2 = 0 then
    (M_fails (nI 2) s).bind fun s2 =>
    some s2
  else
    if v1 = nI 4 then
      if s 10 3 = nI 6 then
        (M_fails (nI 5) s).bind fun s1 =>
        M_readLine_42 v1 s1
      else
        M_readLine_42 v1 s
    else
      M_readLine_42 v1 s
set_option maxRecDepth 100000 in
theorem ok_M_readLine {s : sg} {rv : sg} (hf : M_readLine s = some rv) : mEnds [] 5 123 (0, [some (.ref 10), none], [], hp shM s, 0, 0) (none, hp shM rv, 0, 0) := by
  unfold M_readLine at hf
  refine mEnds.stp 1 (pc' := 1) (l' := [some (.ref 10), none]) (st' := [.ref 10]) (fun _ => rfl) ?_
  obtain ⟨v1, hv1, hf⟩ := ob hf
  refine t_cv (as := []) (st := []) (rfl : mfetch 123 1 = some (1, .invokevirtual 120, 3, 116, 0, 0)) rfl rfl rfl rfl rfl ((ok_M_nameHere hv1).deep 3) ?_
  refine mEnds.stp 5 (pc' := 11) (l' := [some (.ref 10), some (.int v1)]) (st' := [.long (6 : Int64), .long (0 : Int64), .long v1.toInt64]) (fun _ => rfl) ?_
  obtain ⟨v2, hv2, hf⟩ := ob hf
  refine t_cs (as := [.long v1.toInt64, .long (0 : Int64), .long (6 : Int64)]) (st := []) (Or.inl rfl) (rfl : mfetch 123 11 = some (11, .invokestatic 49, 3, 111, 0, 0)) rfl rfl rfl ((ok_M_in hv2).deep 4) ?_
  by_cases hc1 : v2 = 0
  · rw [if_pos hc1] at hf
    refine t_jF (rfl : mfetch 123 14 = some (14, .ifCond .ne 9, 3, 0, 0, 0)) (k_ne' hc1) ?_
    refine mEnds.stp 2 (pc' := 19) (l' := [some (.ref 10), some (.int v1)]) (st' := [.int (nI 2), .ref 10]) (fun _ => rfl) ?_
    obtain ⟨s2, hs2, hf⟩ := ob hf
    refine t_cv (as := [.int (nI 2)]) (st := []) (rfl : mfetch 123 19 = some (19, .invokevirtual 87, 3, 115, 0, 0)) rfl rfl rfl rfl rfl ((ok_M_fails hs2).deep 4) ?_
    cases hf; exact mEnds.rt (fun _ => rfl)
  · rw [if_neg hc1] at hf
    refine t_jT (t := 23) (rfl : mfetch 123 14 = some (14, .ifCond .ne 9, 3, 0, 0, 0)) rfl (k_ne hc1) ?_
    refine mEnds.stp 2 (pc' := 25) (l' := [some (.ref 10), some (.int v1)]) (st' := [.int (nI 4), .int v1]) (fun _ => rfl) ?_
    by_cases hc2 : v1 = nI 4
    · rw [if_pos hc2] at hf
      refine t_cF (rfl : mfetch 123 25 = some (25, .if_icmp .ne 17, 3, 0, 0, 0)) (k_ne' hc2) ?_
      refine mEnds.stp 1 (pc' := 29) (l' := [some (.ref 10), some (.int v1)]) (st' := [.ref 10]) (fun _ => rfl) ?_
      refine t_gi (rfl : mfetch 123 29 = some (29, .getfield 111, 3, 5, 3, 0)) rfl rfl ?_
      refine mEnds.stp 1 (pc' := 34) (l' := [some (.ref 10), some (.int v1)]) (st' := [.int (nI 6), .int (s 10 3)]) (fun _ => rfl) ?_
      by_cases hc3 : s 10 3 = nI 6
      · rw [if_pos hc3] at hf
        refine t_cF (rfl : mfetch 123 34 = some (34, .if_icmp .ne 8, 3, 0, 0, 0)) (k_ne' hc3) ?_
        refine mEnds.stp 2 (pc' := 39) (l' := [some (.ref 10), some (.int v1)]) (st' := [.int (nI 5), .ref 10]) (fun _ => rfl) ?_
        obtain ⟨s1, hs1, hf⟩ := ob hf
        refine t_cv (as := [.int (nI 5)]) (st := []) (rfl : mfetch 123 39 = some (39, .invokevirtual 87, 3, 115, 0, 0)) rfl rfl rfl rfl rfl ((ok_M_fails hs1).deep 4) ?_
        refine mEnds.cut (l := [some (.ref 10), some (.int v1)]) ⟨rfl, ⟨rfl, trivial⟩⟩ ?_
        exact ok_M_readLine_42 hf
      · rw [if_neg hc3] at hf
        refine t_cT (t := 42) (rfl : mfetch 123 34 = some (34, .if_icmp .ne 8, 3, 0, 0, 0)) rfl (k_ne hc3) ?_
        refine mEnds.cut (l := [some (.ref 10), some (.int v1)]) ⟨rfl, ⟨rfl, trivial⟩⟩ ?_
        exact ok_M_readLine_42 hf
    · rw [if_neg hc2] at hf
      refine t_cT (t := 42) (rfl : mfetch 123 25 = some (25, .if_icmp .ne 17, 3, 0, 0, 0)) rfl (k_ne hc2) ?_
      refine mEnds.cut (l := [some (.ref 10), some (.int v1)]) ⟨rfl, ⟨rfl, trivial⟩⟩ ?_
      exact ok_M_readLine_42 hf
def M_text_135 (x1 : Int32) : Nat → Int32 → sg → Option (Int32 × sg)
  | 0, _, _ => none
  | fu + 1, x2, s =>
  if x2 < nI 52 then
    (midx x2 52).bind fun j3 =>
    (midx x2 312).bind fun j4 =>
    (some (up s 11 j4 (s 12 j3))).bind fun s5 =>
    M_text_135 x1 fu (x2 + (nI 1)) s5
  else
    (some (up s 10 1 (s 10 3))).bind fun s1 =>
    (some (up s1 10 22 (nI 0))).bind fun s2 =>
    (midx (nI 0) 2).bind fun j1 =>
    (some (up s2 19 j1 (vp_nar .boolean (nI 0)))).bind fun s3 =>
    (midx (nI 1) 2).bind fun j2 =>
    (some (up s3 19 j2 (vp_nar .boolean (nI 0)))).bind fun s4 =>
    some (x1, s4)
set_option maxRecDepth 100000 in
theorem ok_M_text_135 {x1 : Int32} : ∀ (fu : Nat) (x2 : Int32) (s : sg) (rv : (Int32 × sg)), M_text_135 x1 fu x2 s = some rv → mEnds [] 6 124 (135, [some (.ref 10), some (.int x1), some (.int x2)], [], hp shM s, 0, 0) (some (.int rv.1), hp shM rv.2, 0, 0)
  | 0, _, _, _, hf => by cases hf
  | fu + 1, x2, s, rv, hf => by
    rw [M_text_135] at hf
    refine mEnds.stp 2 (pc' := 138) (l' := [some (.ref 10), some (.int x1), some (.int x2)]) (st' := [.int (nI 52), .int x2]) (fun _ => rfl) ?_
    by_cases hc1 : x2 < nI 52
    · rw [if_pos hc1] at hf
      refine t_cF (rfl : mfetch 124 138 = some (138, .if_icmp .ge 21, 3, 0, 0, 0)) (k_ge' hc1) ?_
      refine mEnds.stp 1 (pc' := 142) (l' := [some (.ref 10), some (.int x1), some (.int x2)]) (st' := [.ref 10]) (fun _ => rfl) ?_
      refine t_gr (rfl : mfetch 124 142 = some (142, .getfield 7, 3, 5, 0, 0)) rfl rfl ?_
      refine mEnds.stp 2 (pc' := 147) (l' := [some (.ref 10), some (.int x1), some (.int x2)]) (st' := [.ref 10, .int x2, .ref 11]) (fun _ => rfl) ?_
      refine t_gr (rfl : mfetch 124 147 = some (147, .getfield 13, 3, 5, 2, 0)) rfl rfl ?_
      refine mEnds.stp 1 (pc' := 151) (l' := [some (.ref 10), some (.int x1), some (.int x2)]) (st' := [.int x2, .ref 12, .int x2, .ref 11]) (fun _ => rfl) ?_
      obtain ⟨j3, hj3, hf⟩ := ob hf
      refine t_ia (rfl : mfetch 124 151 = some (151, .iaload, 1, 0, 0, 0)) rfl rfl hj3 ?_
      obtain ⟨j4, hj4, hf⟩ := ob hf
      obtain ⟨s5, hs5, hf⟩ := ob hf
      refine t_is (rfl : mfetch 124 152 = some (152, .iastore, 1, 0, 0, 0)) rfl rfl hj4 hs5 ?_
      refine mEnds.stp 2 (pc' := 135) (l' := [some (.ref 10), some (.int x1), some (.int (x2 + (nI 1)))]) (st' := []) (fun _ => rfl) ?_
      refine mEnds.cut (l := [some (.ref 10), some (.int x1), some (.int (x2 + (nI 1)))]) ⟨rfl, ⟨rfl, ⟨rfl, trivial⟩⟩⟩ ?_
      exact ok_M_text_135 fu (x2 + (nI 1)) s5 _ hf
    · rw [if_neg hc1] at hf
      refine t_cT (t := 159) (rfl : mfetch 124 138 = some (138, .if_icmp .ge 21, 3, 0, 0, 0)) rfl (k_ge hc1) ?_
      refine mEnds.stp 2 (pc' := 161) (l' := [some (.ref 10), some (.int x1), some (.int x2)]) (st' := [.ref 10, .ref 10]) (fun _ => rfl) ?_
      refine t_gi (rfl : mfetch 124 161 = some (161, .getfield 111, 3, 5, 3, 0)) rfl rfl ?_
      obtain ⟨s1, hs1, hf⟩ := ob hf
      refine t_pi (rfl : mfetch 124 164 = some (164, .putfield 139, 3, 5, 1, 0)) rfl rfl rfl rfl hs1 ?_
      refine mEnds.stp 2 (pc' := 169) (l' := [some (.ref 10), some (.int x1), some (.int x2)]) (st' := [.int (nI 0), .ref 10]) (fun _ => rfl) ?_
      obtain ⟨s2, hs2, hf⟩ := ob hf
      refine t_pi (rfl : mfetch 124 169 = some (169, .putfield 142, 3, 5, 22, 0)) rfl rfl rfl rfl hs2 ?_
      refine mEnds.stp 1 (pc' := 173) (l' := [some (.ref 10), some (.int x1), some (.int x2)]) (st' := [.ref 10]) (fun _ => rfl) ?_
      refine t_gr (rfl : mfetch 124 173 = some (173, .getfield 34, 3, 5, 24, 0)) rfl rfl ?_
      refine mEnds.stp 2 (pc' := 178) (l' := [some (.ref 10), some (.int x1), some (.int x2)]) (st' := [.int (nI 0), .int (nI 0), .ref 19]) (fun _ => rfl) ?_
      obtain ⟨j1, hj1, hf⟩ := ob hf
      obtain ⟨s3, hs3, hf⟩ := ob hf
      refine t_zs (rfl : mfetch 124 178 = some (178, .bastore, 1, 0, 0, 0)) rfl rfl hj1 hs3 ?_
      refine mEnds.stp 1 (pc' := 180) (l' := [some (.ref 10), some (.int x1), some (.int x2)]) (st' := [.ref 10]) (fun _ => rfl) ?_
      refine t_gr (rfl : mfetch 124 180 = some (180, .getfield 34, 3, 5, 24, 0)) rfl rfl ?_
      refine mEnds.stp 2 (pc' := 185) (l' := [some (.ref 10), some (.int x1), some (.int x2)]) (st' := [.int (nI 0), .int (nI 1), .ref 19]) (fun _ => rfl) ?_
      obtain ⟨j2, hj2, hf⟩ := ob hf
      obtain ⟨s4, hs4, hf⟩ := ob hf
      refine t_zs (rfl : mfetch 124 185 = some (185, .bastore, 1, 0, 0, 0)) rfl rfl hj2 hs4 ?_
      refine mEnds.stp 1 (pc' := 187) (l' := [some (.ref 10), some (.int x1), some (.int x2)]) (st' := [.int x1]) (fun _ => rfl) ?_
      exact mEnds.rti (Option.some.inj hf) (fun _ => rfl)
def M_text_105 (x1 : Int32) (s : sg) : Option (Int32 × sg) :=
  (some (up s 10 8 (nI 0))).bind fun s1 =>
  (some (up s1 10 9 (s1 10 10))).bind fun s2 =>
  if 0 < s2 10 10 then
    some ((-10) - (s2 10 11), s2)
  else
    M_text_135 x1 FU (nI 0) s2
set_option maxRecDepth 100000 in
theorem ok_M_text_105 {x1 : Int32} {s : sg} {rv : (Int32 × sg)} (hf : M_text_105 x1 s = some rv) : mEnds [] 6 124 (105, [some (.ref 10), some (.int x1), none], [], hp shM s, 0, 0) (some (.int rv.1), hp shM rv.2, 0, 0) := by
  unfold M_text_105 at hf
  refine mEnds.stp 2 (pc' := 107) (l' := [some (.ref 10), some (.int x1), none]) (st' := [.int (nI 0), .ref 10]) (fun _ => rfl) ?_
  obtain ⟨s1, hs1, hf⟩ := ob hf
  refine t_pi (rfl : mfetch 124 107 = some (107, .putfield 53, 3, 5, 8, 0)) rfl rfl rfl rfl hs1 ?_
  refine mEnds.stp 2 (pc' := 112) (l' := [some (.ref 10), some (.int x1), none]) (st' := [.ref 10, .ref 10]) (fun _ => rfl) ?_
  refine t_gi (rfl : mfetch 124 112 = some (112, .getfield 57, 3, 5, 10, 0)) rfl rfl ?_
  obtain ⟨s2, hs2, hf⟩ := ob hf
  refine t_pi (rfl : mfetch 124 115 = some (115, .putfield 136, 3, 5, 9, 0)) rfl rfl rfl rfl hs2 ?_
  refine mEnds.stp 1 (pc' := 119) (l' := [some (.ref 10), some (.int x1), none]) (st' := [.ref 10]) (fun _ => rfl) ?_
  refine t_gi (rfl : mfetch 124 119 = some (119, .getfield 57, 3, 5, 10, 0)) rfl rfl ?_
  by_cases hc1 : 0 < s2 10 10
  · rw [if_pos hc1] at hf
    refine t_jF (rfl : mfetch 124 122 = some (122, .ifCond .le 11, 3, 0, 0, 0)) (k_le' hc1) ?_
    refine mEnds.stp 2 (pc' := 128) (l' := [some (.ref 10), some (.int x1), none]) (st' := [.ref 10, .int (-10)]) (fun _ => rfl) ?_
    refine t_gi (rfl : mfetch 124 128 = some (128, .getfield 63, 3, 5, 11, 0)) rfl rfl ?_
    refine mEnds.stp 1 (pc' := 132) (l' := [some (.ref 10), some (.int x1), none]) (st' := [.int ((-10) - (s2 10 11))]) (fun _ => rfl) ?_
    exact mEnds.rti (Option.some.inj hf) (fun _ => rfl)
  · rw [if_neg hc1] at hf
    refine t_jT (t := 133) (rfl : mfetch 124 122 = some (122, .ifCond .le 11, 3, 0, 0, 0)) rfl (k_le hc1) ?_
    refine mEnds.stp 2 (pc' := 135) (l' := [some (.ref 10), some (.int x1), some (.int (nI 0))]) (st' := []) (fun _ => rfl) ?_
    refine mEnds.cut (l := [some (.ref 10), some (.int x1), some (.int (nI 0))]) ⟨rfl, ⟨rfl, ⟨rfl, trivial⟩⟩⟩ ?_
    exact ok_M_text_135 FU (nI 0) s2 _ hf
def M_text_81 (x1 : Int32) (s : sg) : Option (Int32 × sg) :=
  if s 10 10 = 0 then
    if s 10 6 < s 10 3 then
      M_text_105 x1 s
    else
      (M_fails (nI 6) s).bind fun s1 =>
      M_text_105 x1 s1
  else
    M_text_105 x1 s
set_option maxRecDepth 100000 in
theorem ok_M_text_81 {x1 : Int32} {s : sg} {rv : (Int32 × sg)} (hf : M_text_81 x1 s = some rv) : mEnds [] 6 124 (81, [some (.ref 10), some (.int x1), none], [], hp shM s, 0, 0) (some (.int rv.1), hp shM rv.2, 0, 0) := by
  unfold M_text_81 at hf
  refine mEnds.stp 1 (pc' := 82) (l' := [some (.ref 10), some (.int x1), none]) (st' := [.ref 10]) (fun _ => rfl) ?_
  refine t_gi (rfl : mfetch 124 82 = some (82, .getfield 57, 3, 5, 10, 0)) rfl rfl ?_
  by_cases hc1 : s 10 10 = 0
  · rw [if_pos hc1] at hf
    refine t_jF (rfl : mfetch 124 85 = some (85, .ifCond .ne 20, 3, 0, 0, 0)) (k_ne' hc1) ?_
    refine mEnds.stp 1 (pc' := 89) (l' := [some (.ref 10), some (.int x1), none]) (st' := [.ref 10]) (fun _ => rfl) ?_
    refine t_gi (rfl : mfetch 124 89 = some (89, .getfield 100, 3, 5, 6, 0)) rfl rfl ?_
    refine mEnds.stp 1 (pc' := 93) (l' := [some (.ref 10), some (.int x1), none]) (st' := [.ref 10, .int (s 10 6)]) (fun _ => rfl) ?_
    refine t_gi (rfl : mfetch 124 93 = some (93, .getfield 111, 3, 5, 3, 0)) rfl rfl ?_
    by_cases hc2 : s 10 6 < s 10 3
    · rw [if_pos hc2] at hf
      refine t_cT (t := 105) (rfl : mfetch 124 96 = some (96, .if_icmp .lt 9, 3, 0, 0, 0)) rfl (k_lt hc2) ?_
      refine mEnds.cut (l := [some (.ref 10), some (.int x1), none]) ⟨rfl, ⟨rfl, trivial⟩⟩ ?_
      exact ok_M_text_105 hf
    · rw [if_neg hc2] at hf
      refine t_cF (rfl : mfetch 124 96 = some (96, .if_icmp .lt 9, 3, 0, 0, 0)) (k_lt' hc2) ?_
      refine mEnds.stp 2 (pc' := 102) (l' := [some (.ref 10), some (.int x1), none]) (st' := [.int (nI 6), .ref 10]) (fun _ => rfl) ?_
      obtain ⟨s1, hs1, hf⟩ := ob hf
      refine t_cv (as := [.int (nI 6)]) (st := []) (rfl : mfetch 124 102 = some (102, .invokevirtual 87, 3, 115, 0, 0)) rfl rfl rfl rfl rfl ((ok_M_fails hs1).deep 5) ?_
      refine mEnds.cut (l := [some (.ref 10), some (.int x1), none]) ⟨rfl, ⟨rfl, trivial⟩⟩ ?_
      exact ok_M_text_105 hf
  · rw [if_neg hc1] at hf
    refine t_jT (t := 105) (rfl : mfetch 124 85 = some (85, .ifCond .ne 20, 3, 0, 0, 0)) rfl (k_ne hc1) ?_
    refine mEnds.cut (l := [some (.ref 10), some (.int x1), none]) ⟨rfl, ⟨rfl, trivial⟩⟩ ?_
    exact ok_M_text_105 hf
def M_text_57 : Nat → Int32 → sg → Option (Int32 × sg)
  | 0, _, _ => none
  | fu + 1, x1, s =>
  if s 10 10 = 0 then
    if s 10 14 = 0 then
      M_text_81 x1 s
    else
      (M_readLine s).bind fun s1 =>
      M_text_57 fu (x1 + (nI 1)) s1
  else
    M_text_81 x1 s
set_option maxRecDepth 100000 in
theorem ok_M_text_57 : ∀ (fu : Nat) (x1 : Int32) (s : sg) (rv : (Int32 × sg)), M_text_57 fu x1 s = some rv → mEnds [] 6 124 (57, [some (.ref 10), some (.int x1), none], [], hp shM s, 0, 0) (some (.int rv.1), hp shM rv.2, 0, 0)
  | 0, _, _, _, hf => by cases hf
  | fu + 1, x1, s, rv, hf => by
    rw [M_text_57] at hf
    refine mEnds.stp 1 (pc' := 58) (l' := [some (.ref 10), some (.int x1), none]) (st' := [.ref 10]) (fun _ => rfl) ?_
    refine t_gi (rfl : mfetch 124 58 = some (58, .getfield 57, 3, 5, 10, 0)) rfl rfl ?_
    by_cases hc1 : s 10 10 = 0
    · rw [if_pos hc1] at hf
      refine t_jF (rfl : mfetch 124 61 = some (61, .ifCond .ne 20, 3, 0, 0, 0)) (k_ne' hc1) ?_
      refine mEnds.stp 1 (pc' := 65) (l' := [some (.ref 10), some (.int x1), none]) (st' := [.ref 10]) (fun _ => rfl) ?_
      refine t_gi (rfl : mfetch 124 65 = some (65, .getfield 66, 3, 5, 14, 0)) rfl rfl ?_
      by_cases hc2 : s 10 14 = 0
      · rw [if_pos hc2] at hf
        refine t_jT (t := 81) (rfl : mfetch 124 68 = some (68, .ifCond .eq 13, 3, 0, 0, 0)) rfl (k_eq hc2) ?_
        refine mEnds.cut (l := [some (.ref 10), some (.int x1), none]) ⟨rfl, ⟨rfl, trivial⟩⟩ ?_
        exact ok_M_text_81 hf
      · rw [if_neg hc2] at hf
        refine t_jF (rfl : mfetch 124 68 = some (68, .ifCond .eq 13, 3, 0, 0, 0)) (k_eq' hc2) ?_
        refine mEnds.stp 1 (pc' := 72) (l' := [some (.ref 10), some (.int x1), none]) (st' := [.ref 10]) (fun _ => rfl) ?_
        obtain ⟨s1, hs1, hf⟩ := ob hf
        refine t_cv (as := []) (st := []) (rfl : mfetch 124 72 = some (72, .invokevirtual 133, 3, 123, 0, 0)) rfl rfl rfl rfl rfl (ok_M_readLine hs1) ?_
        refine mEnds.stp 2 (pc' := 57) (l' := [some (.ref 10), some (.int (x1 + (nI 1))), none]) (st' := []) (fun _ => rfl) ?_
        refine mEnds.cut (l := [some (.ref 10), some (.int (x1 + (nI 1))), none]) ⟨rfl, ⟨rfl, trivial⟩⟩ ?_
        exact ok_M_text_57 fu (x1 + (nI 1)) s1 _ hf
    · rw [if_neg hc1] at hf
      refine t_jT (t := 81) (rfl : mfetch 124 61 = some (61, .ifCond .ne 20, 3, 0, 0, 0)) rfl (k_ne hc1) ?_
      refine mEnds.cut (l := [some (.ref 10), some (.int x1), none]) ⟨rfl, ⟨rfl, trivial⟩⟩ ?_
      exact ok_M_text_81 hf
def M_text_34 (x1 : Int32) : Nat → Int32 → sg → Option (Int32 × sg)
  | 0, _, _ => none
  | fu + 1, x2, s =>
  if x2 < nI 52 then
    (midx x2 52).bind fun j1 =>
    (some (up s 12 j1 (nI 0))).bind fun s2 =>
    M_text_34 x1 fu (x2 + (nI 1)) s2
  else
    (M_step s).bind fun s1 =>
    M_text_57 FU x1 s1
set_option maxRecDepth 100000 in
theorem ok_M_text_34 {x1 : Int32} : ∀ (fu : Nat) (x2 : Int32) (s : sg) (rv : (Int32 × sg)), M_text_34 x1 fu x2 s = some rv → mEnds [] 6 124 (34, [some (.ref 10), some (.int x1), some (.int x2)], [], hp shM s, 0, 0) (some (.int rv.1), hp shM rv.2, 0, 0)
  | 0, _, _, _, hf => by cases hf
  | fu + 1, x2, s, rv, hf => by
    rw [M_text_34] at hf
    refine mEnds.stp 2 (pc' := 37) (l' := [some (.ref 10), some (.int x1), some (.int x2)]) (st' := [.int (nI 52), .int x2]) (fun _ => rfl) ?_
    by_cases hc1 : x2 < nI 52
    · rw [if_pos hc1] at hf
      refine t_cF (rfl : mfetch 124 37 = some (37, .if_icmp .ge 16, 3, 0, 0, 0)) (k_ge' hc1) ?_
      refine mEnds.stp 1 (pc' := 41) (l' := [some (.ref 10), some (.int x1), some (.int x2)]) (st' := [.ref 10]) (fun _ => rfl) ?_
      refine t_gr (rfl : mfetch 124 41 = some (41, .getfield 13, 3, 5, 2, 0)) rfl rfl ?_
      refine mEnds.stp 2 (pc' := 46) (l' := [some (.ref 10), some (.int x1), some (.int x2)]) (st' := [.int (nI 0), .int x2, .ref 12]) (fun _ => rfl) ?_
      obtain ⟨j1, hj1, hf⟩ := ob hf
      obtain ⟨s2, hs2, hf⟩ := ob hf
      refine t_is (rfl : mfetch 124 46 = some (46, .iastore, 1, 0, 0, 0)) rfl rfl hj1 hs2 ?_
      refine mEnds.stp 2 (pc' := 34) (l' := [some (.ref 10), some (.int x1), some (.int (x2 + (nI 1)))]) (st' := []) (fun _ => rfl) ?_
      refine mEnds.cut (l := [some (.ref 10), some (.int x1), some (.int (x2 + (nI 1)))]) ⟨rfl, ⟨rfl, ⟨rfl, trivial⟩⟩⟩ ?_
      exact ok_M_text_34 fu (x2 + (nI 1)) s2 _ hf
    · rw [if_neg hc1] at hf
      refine t_cT (t := 53) (rfl : mfetch 124 37 = some (37, .if_icmp .ge 16, 3, 0, 0, 0)) rfl (k_ge hc1) ?_
      refine mEnds.stp 1 (pc' := 54) (l' := [some (.ref 10), some (.int x1), some (.int x2)]) (st' := [.ref 10]) (fun _ => rfl) ?_
      obtain ⟨s1, hs1, hf⟩ := ob hf
      refine t_cv (as := []) (st := []) (rfl : mfetch 124 54 = some (54, .invokevirtual 91, 3, 117, 0, 0)) rfl rfl rfl rfl rfl ((ok_M_step hs1).deep 4) ?_
      refine mEnds.cut (l := [some (.ref 10), some (.int x1), none]) ⟨rfl, ⟨rfl, trivial⟩⟩ ?_
      exact ok_M_text_57 FU x1 s1 _ hf
def M_text (s : sg) : Option (Int32 × sg) :=
  (some (up s 10 10 (nI 0))).bind fun s1 =>
  (some (up s1 10 12 (nI 0))).bind fun s2 =>
  (some (up s2 10 3 (nI 0))).bind fun s3 =>
  (some (up s3 10 4 (nI 0))).bind fun s4 =>
  (some (up s4 10 5 (nI 0))).bind fun s5 =>
  (some (up s5 10 6 (-1))).bind fun s6 =>
  M_text_34 (nI 0) FU (nI 0) s6
set_option maxRecDepth 100000 in
theorem ok_M_text {s : sg} {rv : (Int32 × sg)} (hf : M_text s = some rv) : mEnds [] 6 124 (0, [some (.ref 10), none, none], [], hp shM s, 0, 0) (some (.int rv.1), hp shM rv.2, 0, 0) := by
  unfold M_text at hf
  refine mEnds.stp 2 (pc' := 2) (l' := [some (.ref 10), none, none]) (st' := [.int (nI 0), .ref 10]) (fun _ => rfl) ?_
  obtain ⟨s1, hs1, hf⟩ := ob hf
  refine t_pi (rfl : mfetch 124 2 = some (2, .putfield 57, 3, 5, 10, 0)) rfl rfl rfl rfl hs1 ?_
  refine mEnds.stp 2 (pc' := 7) (l' := [some (.ref 10), none, none]) (st' := [.int (nI 0), .ref 10]) (fun _ => rfl) ?_
  obtain ⟨s2, hs2, hf⟩ := ob hf
  refine t_pi (rfl : mfetch 124 7 = some (7, .putfield 69, 3, 5, 12, 0)) rfl rfl rfl rfl hs2 ?_
  refine mEnds.stp 2 (pc' := 12) (l' := [some (.ref 10), none, none]) (st' := [.int (nI 0), .ref 10]) (fun _ => rfl) ?_
  obtain ⟨s3, hs3, hf⟩ := ob hf
  refine t_pi (rfl : mfetch 124 12 = some (12, .putfield 111, 3, 5, 3, 0)) rfl rfl rfl rfl hs3 ?_
  refine mEnds.stp 2 (pc' := 17) (l' := [some (.ref 10), none, none]) (st' := [.int (nI 0), .ref 10]) (fun _ => rfl) ?_
  obtain ⟨s4, hs4, hf⟩ := ob hf
  refine t_pi (rfl : mfetch 124 17 = some (17, .putfield 105, 3, 5, 4, 0)) rfl rfl rfl rfl hs4 ?_
  refine mEnds.stp 2 (pc' := 22) (l' := [some (.ref 10), none, none]) (st' := [.int (nI 0), .ref 10]) (fun _ => rfl) ?_
  obtain ⟨s5, hs5, hf⟩ := ob hf
  refine t_pi (rfl : mfetch 124 22 = some (22, .putfield 126, 3, 5, 5, 0)) rfl rfl rfl rfl hs5 ?_
  refine mEnds.stp 2 (pc' := 27) (l' := [some (.ref 10), none, none]) (st' := [.int (-1), .ref 10]) (fun _ => rfl) ?_
  obtain ⟨s6, hs6, hf⟩ := ob hf
  refine t_pi (rfl : mfetch 124 27 = some (27, .putfield 100, 3, 5, 6, 0)) rfl rfl rfl rfl hs6 ?_
  refine mEnds.stp 4 (pc' := 34) (l' := [some (.ref 10), some (.int (nI 0)), some (.int (nI 0))]) (st' := []) (fun _ => rfl) ?_
  refine mEnds.cut (l := [some (.ref 10), some (.int (nI 0)), some (.int (nI 0))]) ⟨rfl, ⟨rfl, ⟨rfl, trivial⟩⟩⟩ ?_
  exact ok_M_text_34 FU (nI 0) s6 _ hf
def M_fault (s : sg) : Option Int32 :=
  some (s 10 9)
set_option maxRecDepth 100000 in
theorem ok_M_fault {s : sg} {rv : Int32} (hf : M_fault s = some rv) : mEnds [] 0 125 (0, [some (.ref 10)], [], hp shM s, 0, 0) (some (.int rv), hp shM s, 0, 0) := by
  unfold M_fault at hf
  refine mEnds.stp 1 (pc' := 1) (l' := [some (.ref 10)]) (st' := [.ref 10]) (fun _ => rfl) ?_
  refine t_gi (rfl : mfetch 125 1 = some (1, .getfield 136, 3, 5, 9, 0)) rfl rfl ?_
  cases hf; exact mEnds.rt (fun _ => rfl)
def M_isRoom (x1 : Int32) (s : sg) : Option Int32 :=
  (M_in x1.toInt64 (0 : Int64) (((s 10 1) - (nI 1)).toInt64) s).bind fun v1 =>
  if v1 = 0 ∨ v1 = 1 then some v1 else none
set_option maxRecDepth 100000 in
theorem ok_M_isRoom {x1 : Int32} {s : sg} {rv : Int32} (hf : M_isRoom x1 s = some rv) : mEnds [] 1 126 (0, [some (.ref 10), some (.int x1)], [], hp shM s, 0, 0) (some (.int rv), hp shM s, 0, 0) := by
  unfold M_isRoom at hf
  refine mEnds.stp 4 (pc' := 4) (l' := [some (.ref 10), some (.int x1)]) (st' := [.ref 10, .long (0 : Int64), .long x1.toInt64]) (fun _ => rfl) ?_
  refine t_gi (rfl : mfetch 126 4 = some (4, .getfield 139, 3, 5, 1, 0)) rfl rfl ?_
  refine mEnds.stp 3 (pc' := 10) (l' := [some (.ref 10), some (.int x1)]) (st' := [.long (((s 10 1) - (nI 1)).toInt64), .long (0 : Int64), .long x1.toInt64]) (fun _ => rfl) ?_
  obtain ⟨v1, hv1, hf⟩ := ob hf
  refine t_cs (as := [.long x1.toInt64, .long (0 : Int64), .long (((s 10 1) - (nI 1)).toInt64)]) (st := []) (Or.inl rfl) (rfl : mfetch 126 10 = some (10, .invokestatic 49, 3, 111, 0, 0)) rfl rfl rfl (ok_M_in hv1) ?_
  by_cases hc1 : v1 = 0 ∨ v1 = 1
  · rw [if_pos hc1] at hf; cases hf; exact t_zr (rfl : mfetch 126 13 = some (13, .ireturn, 1, 0, 0, 0)) rfl hc1
  · rw [if_neg hc1] at hf; cases hf
def M_isWall (x1 : Int32) (s : sg) : Option Int32 :=
  (M_in x1.toInt64 (0 : Int64) (((s 10 1) - (nI 2)).toInt64) s).bind fun v1 =>
  if v1 = 0 ∨ v1 = 1 then some v1 else none
set_option maxRecDepth 100000 in
theorem ok_M_isWall {x1 : Int32} {s : sg} {rv : Int32} (hf : M_isWall x1 s = some rv) : mEnds [] 1 127 (0, [some (.ref 10), some (.int x1)], [], hp shM s, 0, 0) (some (.int rv), hp shM s, 0, 0) := by
  unfold M_isWall at hf
  refine mEnds.stp 4 (pc' := 4) (l' := [some (.ref 10), some (.int x1)]) (st' := [.ref 10, .long (0 : Int64), .long x1.toInt64]) (fun _ => rfl) ?_
  refine t_gi (rfl : mfetch 127 4 = some (4, .getfield 139, 3, 5, 1, 0)) rfl rfl ?_
  refine mEnds.stp 3 (pc' := 10) (l' := [some (.ref 10), some (.int x1)]) (st' := [.long (((s 10 1) - (nI 2)).toInt64), .long (0 : Int64), .long x1.toInt64]) (fun _ => rfl) ?_
  obtain ⟨v1, hv1, hf⟩ := ob hf
  refine t_cs (as := [.long x1.toInt64, .long (0 : Int64), .long (((s 10 1) - (nI 2)).toInt64)]) (st := []) (Or.inl rfl) (rfl : mfetch 127 10 = some (10, .invokestatic 49, 3, 111, 0, 0)) rfl rfl rfl (ok_M_in hv1) ?_
  by_cases hc1 : v1 = 0 ∨ v1 = 1
  · rw [if_pos hc1] at hf; cases hf; exact t_zr (rfl : mfetch 127 13 = some (13, .ireturn, 1, 0, 0, 0)) rfl hc1
  · rw [if_neg hc1] at hf; cases hf
def M_hasTongue (x1 : Int32) (s : sg) : Option Int32 :=
  (midx ((nI 18) + x1) 312).bind fun j1 =>
  if 0 < s 11 j1 then
    some (nI 1)
  else
    some (nI 0)
set_option maxRecDepth 100000 in
theorem ok_M_hasTongue {x1 : Int32} {s : sg} {rv : Int32} (hf : M_hasTongue x1 s = some rv) : mEnds [] 0 128 (0, [some (.ref 10), some (.int x1)], [], hp shM s, 0, 0) (some (.int rv), hp shM s, 0, 0) := by
  unfold M_hasTongue at hf
  refine mEnds.stp 1 (pc' := 1) (l' := [some (.ref 10), some (.int x1)]) (st' := [.ref 10]) (fun _ => rfl) ?_
  refine t_gr (rfl : mfetch 128 1 = some (1, .getfield 7, 3, 5, 0, 0)) rfl rfl ?_
  refine mEnds.stp 3 (pc' := 8) (l' := [some (.ref 10), some (.int x1)]) (st' := [.int ((nI 18) + x1), .ref 11]) (fun _ => rfl) ?_
  obtain ⟨j1, hj1, hf⟩ := ob hf
  refine t_ia (rfl : mfetch 128 8 = some (8, .iaload, 1, 0, 0, 0)) rfl rfl hj1 ?_
  by_cases hc1 : 0 < s 11 j1
  · rw [if_pos hc1] at hf
    refine t_jF (rfl : mfetch 128 9 = some (9, .ifCond .le 7, 3, 0, 0, 0)) (k_le' hc1) ?_
    refine mEnds.stp 2 (pc' := 17) (l' := [some (.ref 10), some (.int x1)]) (st' := [.int (nI 1)]) (fun _ => rfl) ?_
    cases hf; exact mEnds.rt (fun _ => rfl)
  · rw [if_neg hc1] at hf
    refine t_jT (t := 16) (rfl : mfetch 128 9 = some (9, .ifCond .le 7, 3, 0, 0, 0)) rfl (k_le hc1) ?_
    refine mEnds.stp 1 (pc' := 17) (l' := [some (.ref 10), some (.int x1)]) (st' := [.int (nI 0)]) (fun _ => rfl) ?_
    cases hf; exact mEnds.rt (fun _ => rfl)
def M_lowOn (x1 : Int32) (x2 : Int32) (s : sg) : Option Int32 :=
  (midx ((x1 + (nI 18)) + x2) 312).bind fun j1 =>
  (midx ((x1 + (nI 24)) + x2) 312).bind fun j2 =>
  if (s 11 j1) - (nI 1) = 0 then
    some ((s 11 j2) - (nI 2))
  else
    if (s 11 j1) - (nI 1) = nI 1 then
      some ((s 11 j2) - (nI 1))
    else
      some ((s 11 j2) - (nI 5))
set_option maxRecDepth 100000 in
theorem ok_M_lowOn {x1 : Int32} {x2 : Int32} {s : sg} {rv : Int32} (hf : M_lowOn x1 x2 s = some rv) : mEnds [] 0 129 (0, [some (.ref 10), some (.int x1), some (.int x2), none], [], hp shM s, 0, 0) (some (.int rv), hp shM s, 0, 0) := by
  unfold M_lowOn at hf
  refine mEnds.stp 1 (pc' := 1) (l' := [some (.ref 10), some (.int x1), some (.int x2), none]) (st' := [.ref 10]) (fun _ => rfl) ?_
  refine t_gr (rfl : mfetch 129 1 = some (1, .getfield 7, 3, 5, 0, 0)) rfl rfl ?_
  refine mEnds.stp 5 (pc' := 10) (l' := [some (.ref 10), some (.int x1), some (.int x2), none]) (st' := [.int ((x1 + (nI 18)) + x2), .ref 11]) (fun _ => rfl) ?_
  obtain ⟨j1, hj1, hf⟩ := ob hf
  refine t_ia (rfl : mfetch 129 10 = some (10, .iaload, 1, 0, 0, 0)) rfl rfl hj1 ?_
  refine mEnds.stp 4 (pc' := 15) (l' := [some (.ref 10), some (.int x1), some (.int x2), some (.int ((s 11 j1) - (nI 1)))]) (st' := [.ref 10]) (fun _ => rfl) ?_
  refine t_gr (rfl : mfetch 129 15 = some (15, .getfield 7, 3, 5, 0, 0)) rfl rfl ?_
  refine mEnds.stp 5 (pc' := 24) (l' := [some (.ref 10), some (.int x1), some (.int x2), some (.int ((s 11 j1) - (nI 1)))]) (st' := [.int ((x1 + (nI 24)) + x2), .ref 11]) (fun _ => rfl) ?_
  obtain ⟨j2, hj2, hf⟩ := ob hf
  refine t_ia (rfl : mfetch 129 24 = some (24, .iaload, 1, 0, 0, 0)) rfl rfl hj2 ?_
  refine mEnds.stp 1 (pc' := 26) (l' := [some (.ref 10), some (.int x1), some (.int x2), some (.int ((s 11 j1) - (nI 1)))]) (st' := [.int ((s 11 j1) - (nI 1)), .int (s 11 j2)]) (fun _ => rfl) ?_
  by_cases hc1 : (s 11 j1) - (nI 1) = 0
  · rw [if_pos hc1] at hf
    refine t_jF (rfl : mfetch 129 26 = some (26, .ifCond .ne 7, 3, 0, 0, 0)) (k_ne' hc1) ?_
    refine mEnds.stp 3 (pc' := 44) (l' := [some (.ref 10), some (.int x1), some (.int x2), some (.int ((s 11 j1) - (nI 1)))]) (st' := [.int ((s 11 j2) - (nI 2))]) (fun _ => rfl) ?_
    cases hf; exact mEnds.rt (fun _ => rfl)
  · rw [if_neg hc1] at hf
    refine t_jT (t := 33) (rfl : mfetch 129 26 = some (26, .ifCond .ne 7, 3, 0, 0, 0)) rfl (k_ne hc1) ?_
    refine mEnds.stp 2 (pc' := 35) (l' := [some (.ref 10), some (.int x1), some (.int x2), some (.int ((s 11 j1) - (nI 1)))]) (st' := [.int (nI 1), .int ((s 11 j1) - (nI 1)), .int (s 11 j2)]) (fun _ => rfl) ?_
    by_cases hc2 : (s 11 j1) - (nI 1) = nI 1
    · rw [if_pos hc2] at hf
      refine t_cF (rfl : mfetch 129 35 = some (35, .if_icmp .ne 7, 3, 0, 0, 0)) (k_ne' hc2) ?_
      refine mEnds.stp 3 (pc' := 44) (l' := [some (.ref 10), some (.int x1), some (.int x2), some (.int ((s 11 j1) - (nI 1)))]) (st' := [.int ((s 11 j2) - (nI 1))]) (fun _ => rfl) ?_
      cases hf; exact mEnds.rt (fun _ => rfl)
    · rw [if_neg hc2] at hf
      refine t_cT (t := 42) (rfl : mfetch 129 35 = some (35, .if_icmp .ne 7, 3, 0, 0, 0)) rfl (k_ne hc2) ?_
      refine mEnds.stp 2 (pc' := 44) (l' := [some (.ref 10), some (.int x1), some (.int x2), some (.int ((s 11 j1) - (nI 1)))]) (st' := [.int ((s 11 j2) - (nI 5))]) (fun _ => rfl) ?_
      cases hf; exact mEnds.rt (fun _ => rfl)
def M_highOn (x1 : Int32) (x2 : Int32) (s : sg) : Option Int32 :=
  (midx ((x1 + (nI 18)) + x2) 312).bind fun j1 =>
  (midx ((x1 + (nI 24)) + x2) 312).bind fun j2 =>
  if (s 11 j1) - (nI 1) = nI 1 then
    some ((s 11 j2) + (nI 1))
  else
    if (s 11 j1) - (nI 1) = nI 3 then
      some ((s 11 j2) + (nI 4))
    else
      some ((s 11 j2) + (nI 2))
set_option maxRecDepth 100000 in
theorem ok_M_highOn {x1 : Int32} {x2 : Int32} {s : sg} {rv : Int32} (hf : M_highOn x1 x2 s = some rv) : mEnds [] 0 130 (0, [some (.ref 10), some (.int x1), some (.int x2), none], [], hp shM s, 0, 0) (some (.int rv), hp shM s, 0, 0) := by
  unfold M_highOn at hf
  refine mEnds.stp 1 (pc' := 1) (l' := [some (.ref 10), some (.int x1), some (.int x2), none]) (st' := [.ref 10]) (fun _ => rfl) ?_
  refine t_gr (rfl : mfetch 130 1 = some (1, .getfield 7, 3, 5, 0, 0)) rfl rfl ?_
  refine mEnds.stp 5 (pc' := 10) (l' := [some (.ref 10), some (.int x1), some (.int x2), none]) (st' := [.int ((x1 + (nI 18)) + x2), .ref 11]) (fun _ => rfl) ?_
  obtain ⟨j1, hj1, hf⟩ := ob hf
  refine t_ia (rfl : mfetch 130 10 = some (10, .iaload, 1, 0, 0, 0)) rfl rfl hj1 ?_
  refine mEnds.stp 4 (pc' := 15) (l' := [some (.ref 10), some (.int x1), some (.int x2), some (.int ((s 11 j1) - (nI 1)))]) (st' := [.ref 10]) (fun _ => rfl) ?_
  refine t_gr (rfl : mfetch 130 15 = some (15, .getfield 7, 3, 5, 0, 0)) rfl rfl ?_
  refine mEnds.stp 5 (pc' := 24) (l' := [some (.ref 10), some (.int x1), some (.int x2), some (.int ((s 11 j1) - (nI 1)))]) (st' := [.int ((x1 + (nI 24)) + x2), .ref 11]) (fun _ => rfl) ?_
  obtain ⟨j2, hj2, hf⟩ := ob hf
  refine t_ia (rfl : mfetch 130 24 = some (24, .iaload, 1, 0, 0, 0)) rfl rfl hj2 ?_
  refine mEnds.stp 2 (pc' := 27) (l' := [some (.ref 10), some (.int x1), some (.int x2), some (.int ((s 11 j1) - (nI 1)))]) (st' := [.int (nI 1), .int ((s 11 j1) - (nI 1)), .int (s 11 j2)]) (fun _ => rfl) ?_
  by_cases hc1 : (s 11 j1) - (nI 1) = nI 1
  · rw [if_pos hc1] at hf
    refine t_cF (rfl : mfetch 130 27 = some (27, .if_icmp .ne 7, 3, 0, 0, 0)) (k_ne' hc1) ?_
    refine mEnds.stp 3 (pc' := 45) (l' := [some (.ref 10), some (.int x1), some (.int x2), some (.int ((s 11 j1) - (nI 1)))]) (st' := [.int ((s 11 j2) + (nI 1))]) (fun _ => rfl) ?_
    cases hf; exact mEnds.rt (fun _ => rfl)
  · rw [if_neg hc1] at hf
    refine t_cT (t := 34) (rfl : mfetch 130 27 = some (27, .if_icmp .ne 7, 3, 0, 0, 0)) rfl (k_ne hc1) ?_
    refine mEnds.stp 2 (pc' := 36) (l' := [some (.ref 10), some (.int x1), some (.int x2), some (.int ((s 11 j1) - (nI 1)))]) (st' := [.int (nI 3), .int ((s 11 j1) - (nI 1)), .int (s 11 j2)]) (fun _ => rfl) ?_
    by_cases hc2 : (s 11 j1) - (nI 1) = nI 3
    · rw [if_pos hc2] at hf
      refine t_cF (rfl : mfetch 130 36 = some (36, .if_icmp .ne 7, 3, 0, 0, 0)) (k_ne' hc2) ?_
      refine mEnds.stp 3 (pc' := 45) (l' := [some (.ref 10), some (.int x1), some (.int x2), some (.int ((s 11 j1) - (nI 1)))]) (st' := [.int ((s 11 j2) + (nI 4))]) (fun _ => rfl) ?_
      cases hf; exact mEnds.rt (fun _ => rfl)
    · rw [if_neg hc2] at hf
      refine t_cT (t := 43) (rfl : mfetch 130 36 = some (36, .if_icmp .ne 7, 3, 0, 0, 0)) rfl (k_ne hc2) ?_
      refine mEnds.stp 2 (pc' := 45) (l' := [some (.ref 10), some (.int x1), some (.int x2), some (.int ((s 11 j1) - (nI 1)))]) (st' := [.int ((s 11 j2) + (nI 2))]) (fun _ => rfl) ?_
      cases hf; exact mEnds.rt (fun _ => rfl)
def M_tonguesOn_132 (k2 : Int32 → sg → Option sg) (x1 : Int32) (x2 : Int32) (x4 : Int32) (y0 : Int32) (y1 : Int32) (y2 : Int32) (s : sg) : Option sg :=
  (midx y2 312).bind fun j1 =>
  (some (up s 11 j1 (y1 + y0))).bind fun s1 =>
  (midx ((x1 + (nI 30)) + x2) 312).bind fun j2 =>
  (some (up s1 11 j2 x4)).bind fun s2 =>
  k2 (x2 + (nI 1)) s2
set_option maxRecDepth 100000 in
theorem ok_M_tonguesOn_132 {k2 : Int32 → sg → Option sg} {x1 : Int32} {x2 : Int32} {x4 : Int32} {y0 : Int32} {y1 : Int32} {y2 : Int32} {s : sg} {rv : sg} (hk2 : ∀ (x2 : Int32) (s : sg) (rv : sg), k2 x2 s = some rv → mEnds [] 1 131 (2, [some (.ref 10), some (.int x1), some (.int x2), none, none, none], [], hp shM s, 0, 0) (none, hp shM rv, 0, 0)) (hf : M_tonguesOn_132 k2 x1 x2 x4 y0 y1 y2 s = some rv) : mEnds [] 1 131 (132, [some (.ref 10), some (.int x1), some (.int x2), none, some (.int x4), none], [.int y0, .int y1, .int y2, .ref 11], hp shM s, 0, 0) (none, hp shM rv, 0, 0) := by
  unfold M_tonguesOn_132 at hf
  refine mEnds.stp 1 (pc' := 133) (l' := [some (.ref 10), some (.int x1), some (.int x2), none, some (.int x4), none]) (st' := [.int (y1 + y0), .int y2, .ref 11]) (fun _ => rfl) ?_
  obtain ⟨j1, hj1, hf⟩ := ob hf
  obtain ⟨s1, hs1, hf⟩ := ob hf
  refine t_is (rfl : mfetch 131 133 = some (133, .iastore, 1, 0, 0, 0)) rfl rfl hj1 hs1 ?_
  refine mEnds.stp 1 (pc' := 135) (l' := [some (.ref 10), some (.int x1), some (.int x2), none, some (.int x4), none]) (st' := [.ref 10]) (fun _ => rfl) ?_
  refine t_gr (rfl : mfetch 131 135 = some (135, .getfield 7, 3, 5, 0, 0)) rfl rfl ?_
  refine mEnds.stp 6 (pc' := 146) (l' := [some (.ref 10), some (.int x1), some (.int x2), none, some (.int x4), none]) (st' := [.int x4, .int ((x1 + (nI 30)) + x2), .ref 11]) (fun _ => rfl) ?_
  obtain ⟨j2, hj2, hf⟩ := ob hf
  obtain ⟨s2, hs2, hf⟩ := ob hf
  refine t_is (rfl : mfetch 131 146 = some (146, .iastore, 1, 0, 0, 0)) rfl rfl hj2 hs2 ?_
  refine mEnds.stp 2 (pc' := 2) (l' := [some (.ref 10), some (.int x1), some (.int (x2 + (nI 1))), none, some (.int x4), none]) (st' := []) (fun _ => rfl) ?_
  refine mEnds.cut (l := [some (.ref 10), some (.int x1), some (.int (x2 + (nI 1))), none, none, none]) ⟨rfl, ⟨rfl, ⟨rfl, trivial⟩⟩⟩ ?_
  exact hk2 (x2 + (nI 1)) s2 _ hf
def M_tonguesOn_110 (k2 : Int32 → sg → Option sg) (x1 : Int32) (x2 : Int32) (x4 : Int32) (y0 : Int32) (s : sg) : Option sg :=
  (midx (x1 + (nI 51)) 312).bind fun j1 =>
  if y0 = 0 then
    M_tonguesOn_132 k2 x1 x2 x4 (nI 0) (s 11 j1) (x1 + (nI 51)) s
  else
    M_tonguesOn_132 k2 x1 x2 x4 (nI 1) (s 11 j1) (x1 + (nI 51)) s
set_option maxRecDepth 100000 in
theorem ok_M_tonguesOn_110 {k2 : Int32 → sg → Option sg} {x1 : Int32} {x2 : Int32} {x4 : Int32} {y0 : Int32} {s : sg} {rv : sg} (hk2 : ∀ (x2 : Int32) (s : sg) (rv : sg), k2 x2 s = some rv → mEnds [] 1 131 (2, [some (.ref 10), some (.int x1), some (.int x2), none, none, none], [], hp shM s, 0, 0) (none, hp shM rv, 0, 0)) (hf : M_tonguesOn_110 k2 x1 x2 x4 y0 s = some rv) : mEnds [] 1 131 (110, [some (.ref 10), some (.int x1), some (.int x2), none, some (.int x4), none], [.int y0], hp shM s, 0, 0) (none, hp shM rv, 0, 0) := by
  unfold M_tonguesOn_110 at hf
  refine mEnds.stp 2 (pc' := 113) (l' := [some (.ref 10), some (.int x1), some (.int x2), none, some (.int x4), some (.int y0)]) (st' := [.ref 10]) (fun _ => rfl) ?_
  refine t_gr (rfl : mfetch 131 113 = some (113, .getfield 7, 3, 5, 0, 0)) rfl rfl ?_
  refine mEnds.stp 4 (pc' := 121) (l' := [some (.ref 10), some (.int x1), some (.int x2), none, some (.int x4), some (.int y0)]) (st' := [.int (x1 + (nI 51)), .ref 11, .int (x1 + (nI 51)), .ref 11]) (fun _ => rfl) ?_
  obtain ⟨j1, hj1, hf⟩ := ob hf
  refine t_ia (rfl : mfetch 131 121 = some (121, .iaload, 1, 0, 0, 0)) rfl rfl hj1 ?_
  refine mEnds.stp 1 (pc' := 124) (l' := [some (.ref 10), some (.int x1), some (.int x2), none, some (.int x4), some (.int y0)]) (st' := [.int y0, .int (s 11 j1), .int (x1 + (nI 51)), .ref 11]) (fun _ => rfl) ?_
  by_cases hc1 : y0 = 0
  · rw [if_pos hc1] at hf
    refine t_jT (t := 131) (rfl : mfetch 131 124 = some (124, .ifCond .eq 7, 3, 0, 0, 0)) rfl (k_eq hc1) ?_
    refine mEnds.stp 1 (pc' := 132) (l' := [some (.ref 10), some (.int x1), some (.int x2), none, some (.int x4), some (.int y0)]) (st' := [.int (nI 0), .int (s 11 j1), .int (x1 + (nI 51)), .ref 11]) (fun _ => rfl) ?_
    refine mEnds.cut (l := [some (.ref 10), some (.int x1), some (.int x2), none, some (.int x4), none]) ⟨rfl, ⟨rfl, ⟨rfl, ⟨rfl, trivial⟩⟩⟩⟩ ?_
    exact ok_M_tonguesOn_132 hk2 hf
  · rw [if_neg hc1] at hf
    refine t_jF (rfl : mfetch 131 124 = some (124, .ifCond .eq 7, 3, 0, 0, 0)) (k_eq' hc1) ?_
    refine mEnds.stp 2 (pc' := 132) (l' := [some (.ref 10), some (.int x1), some (.int x2), none, some (.int x4), some (.int y0)]) (st' := [.int (nI 1), .int (s 11 j1), .int (x1 + (nI 51)), .ref 11]) (fun _ => rfl) ?_
    refine mEnds.cut (l := [some (.ref 10), some (.int x1), some (.int x2), none, some (.int x4), none]) ⟨rfl, ⟨rfl, ⟨rfl, ⟨rfl, trivial⟩⟩⟩⟩ ?_
    exact ok_M_tonguesOn_132 hk2 hf
def M_tonguesOn_109 (k2 : Int32 → sg → Option sg) (x1 : Int32) (x2 : Int32) (x4 : Int32) (s : sg) : Option sg :=
  M_tonguesOn_110 k2 x1 x2 x4 (nI 0) s
set_option maxRecDepth 100000 in
theorem ok_M_tonguesOn_109 {k2 : Int32 → sg → Option sg} {x1 : Int32} {x2 : Int32} {x4 : Int32} {s : sg} {rv : sg} (hk2 : ∀ (x2 : Int32) (s : sg) (rv : sg), k2 x2 s = some rv → mEnds [] 1 131 (2, [some (.ref 10), some (.int x1), some (.int x2), none, none, none], [], hp shM s, 0, 0) (none, hp shM rv, 0, 0)) (hf : M_tonguesOn_109 k2 x1 x2 x4 s = some rv) : mEnds [] 1 131 (109, [some (.ref 10), some (.int x1), some (.int x2), none, some (.int x4), none], [], hp shM s, 0, 0) (none, hp shM rv, 0, 0) := by
  unfold M_tonguesOn_109 at hf
  refine mEnds.stp 1 (pc' := 110) (l' := [some (.ref 10), some (.int x1), some (.int x2), none, some (.int x4), none]) (st' := [.int (nI 0)]) (fun _ => rfl) ?_
  refine mEnds.cut (l := [some (.ref 10), some (.int x1), some (.int x2), none, some (.int x4), none]) ⟨rfl, ⟨rfl, ⟨rfl, ⟨rfl, trivial⟩⟩⟩⟩ ?_
  exact ok_M_tonguesOn_110 hk2 hf
def M_tonguesOn_72 (k2 : Int32 → sg → Option sg) (x1 : Int32) (x2 : Int32) (y0 : Int32) (s : sg) : Option sg :=
  (midx ((x1 + (nI 30)) + x2) 312).bind fun j1 =>
  if y0 = s 11 j1 then
    M_tonguesOn_109 k2 x1 x2 y0 s
  else
    (midx (x1 + (nI 51)) 312).bind fun j2 =>
    if s 11 j2 < nI 9999 then
      M_tonguesOn_110 k2 x1 x2 y0 (nI 1) s
    else
      M_tonguesOn_109 k2 x1 x2 y0 s
set_option maxRecDepth 100000 in
theorem ok_M_tonguesOn_72 {k2 : Int32 → sg → Option sg} {x1 : Int32} {x2 : Int32} {y0 : Int32} {s : sg} {rv : sg} (hk2 : ∀ (x2 : Int32) (s : sg) (rv : sg), k2 x2 s = some rv → mEnds [] 1 131 (2, [some (.ref 10), some (.int x1), some (.int x2), none, none, none], [], hp shM s, 0, 0) (none, hp shM rv, 0, 0)) (hf : M_tonguesOn_72 k2 x1 x2 y0 s = some rv) : mEnds [] 1 131 (72, [some (.ref 10), some (.int x1), some (.int x2), none, none, none], [.int y0], hp shM s, 0, 0) (none, hp shM rv, 0, 0) := by
  unfold M_tonguesOn_72 at hf
  refine mEnds.stp 3 (pc' := 77) (l' := [some (.ref 10), some (.int x1), some (.int x2), none, some (.int y0), none]) (st' := [.ref 10, .int y0]) (fun _ => rfl) ?_
  refine t_gr (rfl : mfetch 131 77 = some (77, .getfield 7, 3, 5, 0, 0)) rfl rfl ?_
  refine mEnds.stp 5 (pc' := 86) (l' := [some (.ref 10), some (.int x1), some (.int x2), none, some (.int y0), none]) (st' := [.int ((x1 + (nI 30)) + x2), .ref 11, .int y0]) (fun _ => rfl) ?_
  obtain ⟨j1, hj1, hf⟩ := ob hf
  refine t_ia (rfl : mfetch 131 86 = some (86, .iaload, 1, 0, 0, 0)) rfl rfl hj1 ?_
  by_cases hc1 : y0 = s 11 j1
  · rw [if_pos hc1] at hf
    refine t_cT (t := 109) (rfl : mfetch 131 87 = some (87, .if_icmp .eq 22, 3, 0, 0, 0)) rfl (k_eq hc1) ?_
    refine mEnds.cut (l := [some (.ref 10), some (.int x1), some (.int x2), none, some (.int y0), none]) ⟨rfl, ⟨rfl, ⟨rfl, ⟨rfl, trivial⟩⟩⟩⟩ ?_
    exact ok_M_tonguesOn_109 hk2 hf
  · rw [if_neg hc1] at hf
    refine t_cF (rfl : mfetch 131 87 = some (87, .if_icmp .eq 22, 3, 0, 0, 0)) (k_eq' hc1) ?_
    refine mEnds.stp 1 (pc' := 91) (l' := [some (.ref 10), some (.int x1), some (.int x2), none, some (.int y0), none]) (st' := [.ref 10]) (fun _ => rfl) ?_
    refine t_gr (rfl : mfetch 131 91 = some (91, .getfield 7, 3, 5, 0, 0)) rfl rfl ?_
    refine mEnds.stp 3 (pc' := 98) (l' := [some (.ref 10), some (.int x1), some (.int x2), none, some (.int y0), none]) (st' := [.int (x1 + (nI 51)), .ref 11]) (fun _ => rfl) ?_
    obtain ⟨j2, hj2, hf⟩ := ob hf
    refine t_ia (rfl : mfetch 131 98 = some (98, .iaload, 1, 0, 0, 0)) rfl rfl hj2 ?_
    refine mEnds.stp 1 (pc' := 102) (l' := [some (.ref 10), some (.int x1), some (.int x2), none, some (.int y0), none]) (st' := [.int (nI 9999), .int (s 11 j2)]) (fun _ => rfl) ?_
    by_cases hc2 : s 11 j2 < nI 9999
    · rw [if_pos hc2] at hf
      refine t_cF (rfl : mfetch 131 102 = some (102, .if_icmp .ge 7, 3, 0, 0, 0)) (k_ge' hc2) ?_
      refine mEnds.stp 2 (pc' := 110) (l' := [some (.ref 10), some (.int x1), some (.int x2), none, some (.int y0), none]) (st' := [.int (nI 1)]) (fun _ => rfl) ?_
      refine mEnds.cut (l := [some (.ref 10), some (.int x1), some (.int x2), none, some (.int y0), none]) ⟨rfl, ⟨rfl, ⟨rfl, ⟨rfl, trivial⟩⟩⟩⟩ ?_
      exact ok_M_tonguesOn_110 hk2 hf
    · rw [if_neg hc2] at hf
      refine t_cT (t := 109) (rfl : mfetch 131 102 = some (102, .if_icmp .ge 7, 3, 0, 0, 0)) rfl (k_ge hc2) ?_
      refine mEnds.cut (l := [some (.ref 10), some (.int x1), some (.int x2), none, some (.int y0), none]) ⟨rfl, ⟨rfl, ⟨rfl, ⟨rfl, trivial⟩⟩⟩⟩ ?_
      exact ok_M_tonguesOn_109 hk2 hf
def M_tonguesOn_2 (x1 : Int32) : Nat → Int32 → sg → Option sg
  | 0, _, _ => none
  | fu + 1, x2, s =>
  if x2 < s 10 1 then
    (midx ((x1 + (nI 18)) + x2) 312).bind fun j1 =>
    if 0 < s 11 j1 then
      (midx (x1 + x2) 312).bind fun j2 =>
      (M_lowOn x1 x2 s).bind fun v1 =>
      if v1 < s 11 j2 then
        (M_highOn x1 x2 s).bind fun v2 =>
        if s 11 j2 < v2 then
          (midx ((x1 + (nI 30)) + x2) 312).bind fun j3 =>
          M_tonguesOn_72 (M_tonguesOn_2 x1 fu) x1 x2 (s 11 j3) s
        else
          M_tonguesOn_72 (M_tonguesOn_2 x1 fu) x1 x2 (nI 0) s
      else
        M_tonguesOn_72 (M_tonguesOn_2 x1 fu) x1 x2 (nI 1) s
    else
      M_tonguesOn_2 x1 fu (x2 + (nI 1)) s
  else
    some s
set_option maxRecDepth 100000 in
theorem ok_M_tonguesOn_2 {x1 : Int32} : ∀ (fu : Nat) (x2 : Int32) (s : sg) (rv : sg), M_tonguesOn_2 x1 fu x2 s = some rv → mEnds [] 1 131 (2, [some (.ref 10), some (.int x1), some (.int x2), none, none, none], [], hp shM s, 0, 0) (none, hp shM rv, 0, 0)
  | 0, _, _, _, hf => by cases hf
  | fu + 1, x2, s, rv, hf => by
    rw [M_tonguesOn_2] at hf
    refine mEnds.stp 2 (pc' := 4) (l' := [some (.ref 10), some (.int x1), some (.int x2), none, none, none]) (st' := [.ref 10, .int x2]) (fun _ => rfl) ?_
    refine t_gi (rfl : mfetch 131 4 = some (4, .getfield 139, 3, 5, 1, 0)) rfl rfl ?_
    by_cases hc1 : x2 < s 10 1
    · rw [if_pos hc1] at hf
      refine t_cF (rfl : mfetch 131 7 = some (7, .if_icmp .ge 146, 3, 0, 0, 0)) (k_ge' hc1) ?_
      refine mEnds.stp 1 (pc' := 11) (l' := [some (.ref 10), some (.int x1), some (.int x2), none, none, none]) (st' := [.ref 10]) (fun _ => rfl) ?_
      refine t_gr (rfl : mfetch 131 11 = some (11, .getfield 7, 3, 5, 0, 0)) rfl rfl ?_
      refine mEnds.stp 5 (pc' := 20) (l' := [some (.ref 10), some (.int x1), some (.int x2), none, none, none]) (st' := [.int ((x1 + (nI 18)) + x2), .ref 11]) (fun _ => rfl) ?_
      obtain ⟨j1, hj1, hf⟩ := ob hf
      refine t_ia (rfl : mfetch 131 20 = some (20, .iaload, 1, 0, 0, 0)) rfl rfl hj1 ?_
      by_cases hc2 : 0 < s 11 j1
      · rw [if_pos hc2] at hf
        refine t_jF (rfl : mfetch 131 21 = some (21, .ifCond .le 126, 3, 0, 0, 0)) (k_le' hc2) ?_
        refine mEnds.stp 1 (pc' := 25) (l' := [some (.ref 10), some (.int x1), some (.int x2), none, none, none]) (st' := [.ref 10]) (fun _ => rfl) ?_
        refine t_gr (rfl : mfetch 131 25 = some (25, .getfield 7, 3, 5, 0, 0)) rfl rfl ?_
        refine mEnds.stp 3 (pc' := 31) (l' := [some (.ref 10), some (.int x1), some (.int x2), none, none, none]) (st' := [.int (x1 + x2), .ref 11]) (fun _ => rfl) ?_
        obtain ⟨j2, hj2, hf⟩ := ob hf
        refine t_ia (rfl : mfetch 131 31 = some (31, .iaload, 1, 0, 0, 0)) rfl rfl hj2 ?_
        refine mEnds.stp 5 (pc' := 37) (l' := [some (.ref 10), some (.int x1), some (.int x2), some (.int (s 11 j2)), none, none]) (st' := [.int x2, .int x1, .ref 10, .int (s 11 j2)]) (fun _ => rfl) ?_
        obtain ⟨v1, hv1, hf⟩ := ob hf
        refine t_cv (as := [.int x1, .int x2]) (st := [.int (s 11 j2)]) (rfl : mfetch 131 37 = some (37, .invokevirtual 145, 3, 129, 0, 0)) rfl rfl rfl rfl rfl (ok_M_lowOn hv1) ?_
        by_cases hc3 : v1 < s 11 j2
        · rw [if_pos hc3] at hf
          refine t_cT (t := 47) (rfl : mfetch 131 40 = some (40, .if_icmp .gt 7, 3, 0, 0, 0)) rfl (k_gt hc3) ?_
          refine mEnds.stp 4 (pc' := 51) (l' := [some (.ref 10), some (.int x1), some (.int x2), some (.int (s 11 j2)), none, none]) (st' := [.int x2, .int x1, .ref 10, .int (s 11 j2)]) (fun _ => rfl) ?_
          obtain ⟨v2, hv2, hf⟩ := ob hf
          refine t_cv (as := [.int x1, .int x2]) (st := [.int (s 11 j2)]) (rfl : mfetch 131 51 = some (51, .invokevirtual 148, 3, 130, 0, 0)) rfl rfl rfl rfl rfl (ok_M_highOn hv2) ?_
          by_cases hc4 : s 11 j2 < v2
          · rw [if_pos hc4] at hf
            refine t_cT (t := 61) (rfl : mfetch 131 54 = some (54, .if_icmp .lt 7, 3, 0, 0, 0)) rfl (k_lt hc4) ?_
            refine mEnds.stp 1 (pc' := 62) (l' := [some (.ref 10), some (.int x1), some (.int x2), some (.int (s 11 j2)), none, none]) (st' := [.ref 10]) (fun _ => rfl) ?_
            refine t_gr (rfl : mfetch 131 62 = some (62, .getfield 7, 3, 5, 0, 0)) rfl rfl ?_
            refine mEnds.stp 5 (pc' := 71) (l' := [some (.ref 10), some (.int x1), some (.int x2), some (.int (s 11 j2)), none, none]) (st' := [.int ((x1 + (nI 30)) + x2), .ref 11]) (fun _ => rfl) ?_
            obtain ⟨j3, hj3, hf⟩ := ob hf
            refine t_ia (rfl : mfetch 131 71 = some (71, .iaload, 1, 0, 0, 0)) rfl rfl hj3 ?_
            refine mEnds.cut (l := [some (.ref 10), some (.int x1), some (.int x2), none, none, none]) ⟨rfl, ⟨rfl, ⟨rfl, trivial⟩⟩⟩ ?_
            exact ok_M_tonguesOn_72 (ok_M_tonguesOn_2 fu) hf
          · rw [if_neg hc4] at hf
            refine t_cF (rfl : mfetch 131 54 = some (54, .if_icmp .lt 7, 3, 0, 0, 0)) (k_lt' hc4) ?_
            refine mEnds.stp 2 (pc' := 72) (l' := [some (.ref 10), some (.int x1), some (.int x2), some (.int (s 11 j2)), none, none]) (st' := [.int (nI 0)]) (fun _ => rfl) ?_
            refine mEnds.cut (l := [some (.ref 10), some (.int x1), some (.int x2), none, none, none]) ⟨rfl, ⟨rfl, ⟨rfl, trivial⟩⟩⟩ ?_
            exact ok_M_tonguesOn_72 (ok_M_tonguesOn_2 fu) hf
        · rw [if_neg hc3] at hf
          refine t_cF (rfl : mfetch 131 40 = some (40, .if_icmp .gt 7, 3, 0, 0, 0)) (k_gt' hc3) ?_
          refine mEnds.stp 2 (pc' := 72) (l' := [some (.ref 10), some (.int x1), some (.int x2), some (.int (s 11 j2)), none, none]) (st' := [.int (nI 1)]) (fun _ => rfl) ?_
          refine mEnds.cut (l := [some (.ref 10), some (.int x1), some (.int x2), none, none, none]) ⟨rfl, ⟨rfl, ⟨rfl, trivial⟩⟩⟩ ?_
          exact ok_M_tonguesOn_72 (ok_M_tonguesOn_2 fu) hf
      · rw [if_neg hc2] at hf
        refine t_jT (t := 147) (rfl : mfetch 131 21 = some (21, .ifCond .le 126, 3, 0, 0, 0)) rfl (k_le hc2) ?_
        refine mEnds.stp 2 (pc' := 2) (l' := [some (.ref 10), some (.int x1), some (.int (x2 + (nI 1))), none, none, none]) (st' := []) (fun _ => rfl) ?_
        refine mEnds.cut (l := [some (.ref 10), some (.int x1), some (.int (x2 + (nI 1))), none, none, none]) ⟨rfl, ⟨rfl, ⟨rfl, trivial⟩⟩⟩ ?_
        exact ok_M_tonguesOn_2 fu (x2 + (nI 1)) s _ hf
    · rw [if_neg hc1] at hf
      refine t_cT (t := 153) (rfl : mfetch 131 7 = some (7, .if_icmp .ge 146, 3, 0, 0, 0)) rfl (k_ge hc1) ?_
      cases hf; exact mEnds.rt (fun _ => rfl)
def M_tonguesOn (x1 : Int32) (s : sg) : Option sg :=
  M_tonguesOn_2 x1 FU (nI 0) s
set_option maxRecDepth 100000 in
theorem ok_M_tonguesOn {x1 : Int32} {s : sg} {rv : sg} (hf : M_tonguesOn x1 s = some rv) : mEnds [] 1 131 (0, [some (.ref 10), some (.int x1), none, none, none, none], [], hp shM s, 0, 0) (none, hp shM rv, 0, 0) := by
  unfold M_tonguesOn at hf
  refine mEnds.stp 2 (pc' := 2) (l' := [some (.ref 10), some (.int x1), some (.int (nI 0)), none, none, none]) (st' := []) (fun _ => rfl) ?_
  refine mEnds.cut (l := [some (.ref 10), some (.int x1), some (.int (nI 0)), none, none, none]) ⟨rfl, ⟨rfl, ⟨rfl, trivial⟩⟩⟩ ?_
  exact ok_M_tonguesOn_2 FU (nI 0) s _ hf
end Q31b
section Q31c
def M_hourOn_124 (k8 : Int32 → sg → Option sg) (x1 : Int32) (x2 : Int32) (x3 : Int32) (x4 : Int32) (y0 : Int32) (y1 : Int32) (y2 : Int32) (s : sg) : Option sg :=
  (midx y2 312).bind fun j1 =>
  (some (up s 11 j1 (y1 + y0))).bind fun s1 =>
  k8 (x4 + (nI 1)) s1
set_option maxRecDepth 100000 in
theorem ok_M_hourOn_124 {k8 : Int32 → sg → Option sg} {x1 : Int32} {x2 : Int32} {x3 : Int32} {x4 : Int32} {y0 : Int32} {y1 : Int32} {y2 : Int32} {s : sg} {rv : sg} (hk8 : ∀ (x4 : Int32) (s : sg) (rv : sg), k8 x4 s = some rv → mEnds [] 2 132 (8, [some (.ref 10), some (.int x1), some (.int x2), some (.int x3), some (.int x4), none], [], hp shM s, 0, 0) (none, hp shM rv, 0, 0)) (hf : M_hourOn_124 k8 x1 x2 x3 x4 y0 y1 y2 s = some rv) : mEnds [] 2 132 (124, [some (.ref 10), some (.int x1), some (.int x2), some (.int x3), some (.int x4), none], [.int y0, .int y1, .int y2, .ref 11], hp shM s, 0, 0) (none, hp shM rv, 0, 0) := by
  unfold M_hourOn_124 at hf
  refine mEnds.stp 1 (pc' := 125) (l' := [some (.ref 10), some (.int x1), some (.int x2), some (.int x3), some (.int x4), none]) (st' := [.int (y1 + y0), .int y2, .ref 11]) (fun _ => rfl) ?_
  obtain ⟨j1, hj1, hf⟩ := ob hf
  obtain ⟨s1, hs1, hf⟩ := ob hf
  refine t_is (rfl : mfetch 132 125 = some (125, .iastore, 1, 0, 0, 0)) rfl rfl hj1 hs1 ?_
  refine mEnds.stp 2 (pc' := 8) (l' := [some (.ref 10), some (.int x1), some (.int x2), some (.int x3), some (.int (x4 + (nI 1))), none]) (st' := []) (fun _ => rfl) ?_
  refine mEnds.cut (l := [some (.ref 10), some (.int x1), some (.int x2), some (.int x3), some (.int (x4 + (nI 1))), none]) ⟨rfl, ⟨rfl, ⟨rfl, ⟨rfl, ⟨rfl, trivial⟩⟩⟩⟩⟩ ?_
  exact hk8 (x4 + (nI 1)) s1 _ hf
def M_hourOn_281 (k222 : Int32 → sg → Option sg) (x1 : Int32) (x4 : Int32) (y0 : Int32) (y1 : Int32) (s : sg) : Option sg :=
  (midx y1 312).bind fun j1 =>
  (some (up s 11 j1 y0)).bind fun s1 =>
  k222 (x4 + (nI 1)) s1
set_option maxRecDepth 100000 in
theorem ok_M_hourOn_281 {k222 : Int32 → sg → Option sg} {x1 : Int32} {x4 : Int32} {y0 : Int32} {y1 : Int32} {s : sg} {rv : sg} (hk222 : ∀ (x4 : Int32) (s : sg) (rv : sg), k222 x4 s = some rv → mEnds [] 2 132 (222, [some (.ref 10), some (.int x1), none, none, some (.int x4), none], [], hp shM s, 0, 0) (none, hp shM rv, 0, 0)) (hf : M_hourOn_281 k222 x1 x4 y0 y1 s = some rv) : mEnds [] 2 132 (281, [some (.ref 10), some (.int x1), none, none, some (.int x4), none], [.int y0, .int y1, .ref 11], hp shM s, 0, 0) (none, hp shM rv, 0, 0) := by
  unfold M_hourOn_281 at hf
  obtain ⟨j1, hj1, hf⟩ := ob hf
  obtain ⟨s1, hs1, hf⟩ := ob hf
  refine t_is (rfl : mfetch 132 281 = some (281, .iastore, 1, 0, 0, 0)) rfl rfl hj1 hs1 ?_
  refine mEnds.stp 2 (pc' := 222) (l' := [some (.ref 10), some (.int x1), none, none, some (.int (x4 + (nI 1))), none]) (st' := []) (fun _ => rfl) ?_
  refine mEnds.cut (l := [some (.ref 10), some (.int x1), none, none, some (.int (x4 + (nI 1))), none]) ⟨rfl, ⟨rfl, ⟨rfl, trivial⟩⟩⟩ ?_
  exact hk222 (x4 + (nI 1)) s1 _ hf
def M_hourOn_222 (x1 : Int32) : Nat → Int32 → sg → Option sg
  | 0, _, _ => none
  | fu + 1, x4, s =>
  if x4 < s 10 1 then
    (midx (x1 + x4) 312).bind fun j3 =>
    (midx x4 6).bind fun j4 =>
    if (s 11 j3) + (s 16 j4) < 0 then
      M_hourOn_281 (M_hourOn_222 x1 fu) x1 x4 (nI 0) (x1 + x4) s
    else
      if nI 99 < (s 11 j3) + (s 16 j4) then
        M_hourOn_281 (M_hourOn_222 x1 fu) x1 x4 (nI 99) (x1 + x4) s
      else
        M_hourOn_281 (M_hourOn_222 x1 fu) x1 x4 ((s 11 j3) + (s 16 j4)) (x1 + x4) s
  else
    (midx (x1 + (nI 49)) 312).bind fun j1 =>
    (midx (x1 + (nI 49)) 312).bind fun j2 =>
    (some (up s 11 j2 ((s 11 j1) + (nI 1)))).bind fun s1 =>
    some s1
set_option maxRecDepth 100000 in
theorem ok_M_hourOn_222 {x1 : Int32} : ∀ (fu : Nat) (x4 : Int32) (s : sg) (rv : sg), M_hourOn_222 x1 fu x4 s = some rv → mEnds [] 2 132 (222, [some (.ref 10), some (.int x1), none, none, some (.int x4), none], [], hp shM s, 0, 0) (none, hp shM rv, 0, 0)
  | 0, _, _, _, hf => by cases hf
  | fu + 1, x4, s, rv, hf => by
    rw [M_hourOn_222] at hf
    refine mEnds.stp 2 (pc' := 225) (l' := [some (.ref 10), some (.int x1), none, none, some (.int x4), none]) (st' := [.ref 10, .int x4]) (fun _ => rfl) ?_
    refine t_gi (rfl : mfetch 132 225 = some (225, .getfield 139, 3, 5, 1, 0)) rfl rfl ?_
    by_cases hc1 : x4 < s 10 1
    · rw [if_pos hc1] at hf
      refine t_cF (rfl : mfetch 132 228 = some (228, .if_icmp .ge 60, 3, 0, 0, 0)) (k_ge' hc1) ?_
      refine mEnds.stp 1 (pc' := 232) (l' := [some (.ref 10), some (.int x1), none, none, some (.int x4), none]) (st' := [.ref 10]) (fun _ => rfl) ?_
      refine t_gr (rfl : mfetch 132 232 = some (232, .getfield 7, 3, 5, 0, 0)) rfl rfl ?_
      refine mEnds.stp 3 (pc' := 239) (l' := [some (.ref 10), some (.int x1), none, none, some (.int x4), none]) (st' := [.int (x1 + x4), .ref 11]) (fun _ => rfl) ?_
      obtain ⟨j3, hj3, hf⟩ := ob hf
      refine t_ia (rfl : mfetch 132 239 = some (239, .iaload, 1, 0, 0, 0)) rfl rfl hj3 ?_
      refine mEnds.stp 1 (pc' := 241) (l' := [some (.ref 10), some (.int x1), none, none, some (.int x4), none]) (st' := [.ref 10, .int (s 11 j3)]) (fun _ => rfl) ?_
      refine t_gr (rfl : mfetch 132 241 = some (241, .getfield 25, 3, 5, 18, 0)) rfl rfl ?_
      refine mEnds.stp 1 (pc' := 246) (l' := [some (.ref 10), some (.int x1), none, none, some (.int x4), none]) (st' := [.int x4, .ref 16, .int (s 11 j3)]) (fun _ => rfl) ?_
      obtain ⟨j4, hj4, hf⟩ := ob hf
      refine t_ia (rfl : mfetch 132 246 = some (246, .iaload, 1, 0, 0, 0)) rfl rfl hj4 ?_
      refine mEnds.stp 3 (pc' := 251) (l' := [some (.ref 10), some (.int x1), none, none, some (.int x4), some (.int ((s 11 j3) + (s 16 j4)))]) (st' := [.ref 10]) (fun _ => rfl) ?_
      refine t_gr (rfl : mfetch 132 251 = some (251, .getfield 7, 3, 5, 0, 0)) rfl rfl ?_
      refine mEnds.stp 4 (pc' := 260) (l' := [some (.ref 10), some (.int x1), none, none, some (.int x4), some (.int ((s 11 j3) + (s 16 j4)))]) (st' := [.int ((s 11 j3) + (s 16 j4)), .int (x1 + x4), .ref 11]) (fun _ => rfl) ?_
      by_cases hc2 : (s 11 j3) + (s 16 j4) < 0
      · rw [if_pos hc2] at hf
        refine t_jF (rfl : mfetch 132 260 = some (260, .ifCond .ge 7, 3, 0, 0, 0)) (k_ge' hc2) ?_
        refine mEnds.stp 2 (pc' := 281) (l' := [some (.ref 10), some (.int x1), none, none, some (.int x4), some (.int ((s 11 j3) + (s 16 j4)))]) (st' := [.int (nI 0), .int (x1 + x4), .ref 11]) (fun _ => rfl) ?_
        refine mEnds.cut (l := [some (.ref 10), some (.int x1), none, none, some (.int x4), none]) ⟨rfl, ⟨rfl, ⟨rfl, trivial⟩⟩⟩ ?_
        exact ok_M_hourOn_281 (ok_M_hourOn_222 fu) hf
      · rw [if_neg hc2] at hf
        refine t_jT (t := 267) (rfl : mfetch 132 260 = some (260, .ifCond .ge 7, 3, 0, 0, 0)) rfl (k_ge hc2) ?_
        refine mEnds.stp 2 (pc' := 271) (l' := [some (.ref 10), some (.int x1), none, none, some (.int x4), some (.int ((s 11 j3) + (s 16 j4)))]) (st' := [.int (nI 99), .int ((s 11 j3) + (s 16 j4)), .int (x1 + x4), .ref 11]) (fun _ => rfl) ?_
        by_cases hc3 : nI 99 < (s 11 j3) + (s 16 j4)
        · rw [if_pos hc3] at hf
          refine t_cF (rfl : mfetch 132 271 = some (271, .if_icmp .le 8, 3, 0, 0, 0)) (k_le' hc3) ?_
          refine mEnds.stp 2 (pc' := 281) (l' := [some (.ref 10), some (.int x1), none, none, some (.int x4), some (.int ((s 11 j3) + (s 16 j4)))]) (st' := [.int (nI 99), .int (x1 + x4), .ref 11]) (fun _ => rfl) ?_
          refine mEnds.cut (l := [some (.ref 10), some (.int x1), none, none, some (.int x4), none]) ⟨rfl, ⟨rfl, ⟨rfl, trivial⟩⟩⟩ ?_
          exact ok_M_hourOn_281 (ok_M_hourOn_222 fu) hf
        · rw [if_neg hc3] at hf
          refine t_cT (t := 279) (rfl : mfetch 132 271 = some (271, .if_icmp .le 8, 3, 0, 0, 0)) rfl (k_le hc3) ?_
          refine mEnds.stp 1 (pc' := 281) (l' := [some (.ref 10), some (.int x1), none, none, some (.int x4), some (.int ((s 11 j3) + (s 16 j4)))]) (st' := [.int ((s 11 j3) + (s 16 j4)), .int (x1 + x4), .ref 11]) (fun _ => rfl) ?_
          refine mEnds.cut (l := [some (.ref 10), some (.int x1), none, none, some (.int x4), none]) ⟨rfl, ⟨rfl, ⟨rfl, trivial⟩⟩⟩ ?_
          exact ok_M_hourOn_281 (ok_M_hourOn_222 fu) hf
    · rw [if_neg hc1] at hf
      refine t_cT (t := 288) (rfl : mfetch 132 228 = some (228, .if_icmp .ge 60, 3, 0, 0, 0)) rfl (k_ge hc1) ?_
      refine mEnds.stp 1 (pc' := 289) (l' := [some (.ref 10), some (.int x1), none, none, some (.int x4), none]) (st' := [.ref 10]) (fun _ => rfl) ?_
      refine t_gr (rfl : mfetch 132 289 = some (289, .getfield 7, 3, 5, 0, 0)) rfl rfl ?_
      refine mEnds.stp 4 (pc' := 297) (l' := [some (.ref 10), some (.int x1), none, none, some (.int x4), none]) (st' := [.int (x1 + (nI 49)), .ref 11, .int (x1 + (nI 49)), .ref 11]) (fun _ => rfl) ?_
      obtain ⟨j1, hj1, hf⟩ := ob hf
      refine t_ia (rfl : mfetch 132 297 = some (297, .iaload, 1, 0, 0, 0)) rfl rfl hj1 ?_
      refine mEnds.stp 2 (pc' := 300) (l' := [some (.ref 10), some (.int x1), none, none, some (.int x4), none]) (st' := [.int ((s 11 j1) + (nI 1)), .int (x1 + (nI 49)), .ref 11]) (fun _ => rfl) ?_
      obtain ⟨j2, hj2, hf⟩ := ob hf
      obtain ⟨s1, hs1, hf⟩ := ob hf
      refine t_is (rfl : mfetch 132 300 = some (300, .iastore, 1, 0, 0, 0)) rfl rfl hj2 hs1 ?_
      cases hf; exact mEnds.rt (fun _ => rfl)
def M_hourOn_135 (x1 : Int32) : Nat → Int32 → sg → Option sg
  | 0, _, _ => none
  | fu + 1, x4, s =>
  if x4 < (s 10 1) - (nI 1) then
    (midx ((x1 + (nI 36)) + x4) 312).bind fun j1 =>
    (midx (x1 + x4) 312).bind fun j2 =>
    (midx ((x1 + x4) + (nI 1)) 312).bind fun j3 =>
    (midx x4 6).bind fun j4 =>
    (midx x4 6).bind fun j5 =>
    (some (up s 16 j5 ((s 16 j4) - ((((s 11 j1) + (nI 2)) * ((s 11 j2) - (s 11 j3))) / (nI 10))))).bind fun s1 =>
    (midx (x4 + (nI 1)) 6).bind fun j6 =>
    (midx (x4 + (nI 1)) 6).bind fun j7 =>
    (some (up s1 16 j7 ((s1 16 j6) + ((((s 11 j1) + (nI 2)) * ((s 11 j2) - (s 11 j3))) / (nI 10))))).bind fun s2 =>
    M_hourOn_135 x1 fu (x4 + (nI 1)) s2
  else
    M_hourOn_222 x1 FU (nI 0) s
set_option maxRecDepth 100000 in
theorem ok_M_hourOn_135 {x1 : Int32} : ∀ (fu : Nat) (x4 : Int32) (s : sg) (rv : sg), M_hourOn_135 x1 fu x4 s = some rv → mEnds [] 2 132 (135, [some (.ref 10), some (.int x1), none, none, some (.int x4), none], [], hp shM s, 0, 0) (none, hp shM rv, 0, 0)
  | 0, _, _, _, hf => by cases hf
  | fu + 1, x4, s, rv, hf => by
    rw [M_hourOn_135] at hf
    refine mEnds.stp 2 (pc' := 138) (l' := [some (.ref 10), some (.int x1), none, none, some (.int x4), none]) (st' := [.ref 10, .int x4]) (fun _ => rfl) ?_
    refine t_gi (rfl : mfetch 132 138 = some (138, .getfield 139, 3, 5, 1, 0)) rfl rfl ?_
    refine mEnds.stp 2 (pc' := 143) (l' := [some (.ref 10), some (.int x1), none, none, some (.int x4), none]) (st' := [.int ((s 10 1) - (nI 1)), .int x4]) (fun _ => rfl) ?_
    by_cases hc1 : x4 < (s 10 1) - (nI 1)
    · rw [if_pos hc1] at hf
      refine t_cF (rfl : mfetch 132 143 = some (143, .if_icmp .ge 76, 3, 0, 0, 0)) (k_ge' hc1) ?_
      refine mEnds.stp 1 (pc' := 147) (l' := [some (.ref 10), some (.int x1), none, none, some (.int x4), none]) (st' := [.ref 10]) (fun _ => rfl) ?_
      refine t_gr (rfl : mfetch 132 147 = some (147, .getfield 7, 3, 5, 0, 0)) rfl rfl ?_
      refine mEnds.stp 5 (pc' := 157) (l' := [some (.ref 10), some (.int x1), none, none, some (.int x4), none]) (st' := [.int ((x1 + (nI 36)) + x4), .ref 11]) (fun _ => rfl) ?_
      obtain ⟨j1, hj1, hf⟩ := ob hf
      refine t_ia (rfl : mfetch 132 157 = some (157, .iaload, 1, 0, 0, 0)) rfl rfl hj1 ?_
      refine mEnds.stp 3 (pc' := 161) (l' := [some (.ref 10), some (.int x1), none, none, some (.int x4), none]) (st' := [.ref 10, .int ((s 11 j1) + (nI 2))]) (fun _ => rfl) ?_
      refine t_gr (rfl : mfetch 132 161 = some (161, .getfield 7, 3, 5, 0, 0)) rfl rfl ?_
      refine mEnds.stp 3 (pc' := 168) (l' := [some (.ref 10), some (.int x1), none, none, some (.int x4), none]) (st' := [.int (x1 + x4), .ref 11, .int ((s 11 j1) + (nI 2))]) (fun _ => rfl) ?_
      obtain ⟨j2, hj2, hf⟩ := ob hf
      refine t_ia (rfl : mfetch 132 168 = some (168, .iaload, 1, 0, 0, 0)) rfl rfl hj2 ?_
      refine mEnds.stp 1 (pc' := 170) (l' := [some (.ref 10), some (.int x1), none, none, some (.int x4), none]) (st' := [.ref 10, .int (s 11 j2), .int ((s 11 j1) + (nI 2))]) (fun _ => rfl) ?_
      refine t_gr (rfl : mfetch 132 170 = some (170, .getfield 7, 3, 5, 0, 0)) rfl rfl ?_
      refine mEnds.stp 5 (pc' := 179) (l' := [some (.ref 10), some (.int x1), none, none, some (.int x4), none]) (st' := [.int ((x1 + x4) + (nI 1)), .ref 11, .int (s 11 j2), .int ((s 11 j1) + (nI 2))]) (fun _ => rfl) ?_
      obtain ⟨j3, hj3, hf⟩ := ob hf
      refine t_ia (rfl : mfetch 132 179 = some (179, .iaload, 1, 0, 0, 0)) rfl rfl hj3 ?_
      refine mEnds.stp 6 (pc' := 188) (l' := [some (.ref 10), some (.int x1), none, none, some (.int x4), some (.int ((((s 11 j1) + (nI 2)) * ((s 11 j2) - (s 11 j3))) / (nI 10)))]) (st' := [.ref 10]) (fun _ => rfl) ?_
      refine t_gr (rfl : mfetch 132 188 = some (188, .getfield 25, 3, 5, 18, 0)) rfl rfl ?_
      refine mEnds.stp 2 (pc' := 194) (l' := [some (.ref 10), some (.int x1), none, none, some (.int x4), some (.int ((((s 11 j1) + (nI 2)) * ((s 11 j2) - (s 11 j3))) / (nI 10)))]) (st' := [.int x4, .ref 16, .int x4, .ref 16]) (fun _ => rfl) ?_
      obtain ⟨j4, hj4, hf⟩ := ob hf
      refine t_ia (rfl : mfetch 132 194 = some (194, .iaload, 1, 0, 0, 0)) rfl rfl hj4 ?_
      refine mEnds.stp 2 (pc' := 198) (l' := [some (.ref 10), some (.int x1), none, none, some (.int x4), some (.int ((((s 11 j1) + (nI 2)) * ((s 11 j2) - (s 11 j3))) / (nI 10)))]) (st' := [.int ((s 16 j4) - ((((s 11 j1) + (nI 2)) * ((s 11 j2) - (s 11 j3))) / (nI 10))), .int x4, .ref 16]) (fun _ => rfl) ?_
      obtain ⟨j5, hj5, hf⟩ := ob hf
      obtain ⟨s1, hs1, hf⟩ := ob hf
      refine t_is (rfl : mfetch 132 198 = some (198, .iastore, 1, 0, 0, 0)) rfl rfl hj5 hs1 ?_
      refine mEnds.stp 1 (pc' := 200) (l' := [some (.ref 10), some (.int x1), none, none, some (.int x4), some (.int ((((s 11 j1) + (nI 2)) * ((s 11 j2) - (s 11 j3))) / (nI 10)))]) (st' := [.ref 10]) (fun _ => rfl) ?_
      refine t_gr (rfl : mfetch 132 200 = some (200, .getfield 25, 3, 5, 18, 0)) rfl rfl ?_
      refine mEnds.stp 4 (pc' := 208) (l' := [some (.ref 10), some (.int x1), none, none, some (.int x4), some (.int ((((s 11 j1) + (nI 2)) * ((s 11 j2) - (s 11 j3))) / (nI 10)))]) (st' := [.int (x4 + (nI 1)), .ref 16, .int (x4 + (nI 1)), .ref 16]) (fun _ => rfl) ?_
      obtain ⟨j6, hj6, hf⟩ := ob hf
      refine t_ia (rfl : mfetch 132 208 = some (208, .iaload, 1, 0, 0, 0)) rfl rfl hj6 ?_
      refine mEnds.stp 2 (pc' := 212) (l' := [some (.ref 10), some (.int x1), none, none, some (.int x4), some (.int ((((s 11 j1) + (nI 2)) * ((s 11 j2) - (s 11 j3))) / (nI 10)))]) (st' := [.int ((s1 16 j6) + ((((s 11 j1) + (nI 2)) * ((s 11 j2) - (s 11 j3))) / (nI 10))), .int (x4 + (nI 1)), .ref 16]) (fun _ => rfl) ?_
      obtain ⟨j7, hj7, hf⟩ := ob hf
      obtain ⟨s2, hs2, hf⟩ := ob hf
      refine t_is (rfl : mfetch 132 212 = some (212, .iastore, 1, 0, 0, 0)) rfl rfl hj7 hs2 ?_
      refine mEnds.stp 2 (pc' := 135) (l' := [some (.ref 10), some (.int x1), none, none, some (.int (x4 + (nI 1))), some (.int ((((s 11 j1) + (nI 2)) * ((s 11 j2) - (s 11 j3))) / (nI 10)))]) (st' := []) (fun _ => rfl) ?_
      refine mEnds.cut (l := [some (.ref 10), some (.int x1), none, none, some (.int (x4 + (nI 1))), none]) ⟨rfl, ⟨rfl, ⟨rfl, trivial⟩⟩⟩ ?_
      exact ok_M_hourOn_135 fu (x4 + (nI 1)) s2 _ hf
    · rw [if_neg hc1] at hf
      refine t_cT (t := 219) (rfl : mfetch 132 143 = some (143, .if_icmp .ge 76, 3, 0, 0, 0)) rfl (k_ge hc1) ?_
      refine mEnds.stp 2 (pc' := 222) (l' := [some (.ref 10), some (.int x1), none, none, some (.int (nI 0)), none]) (st' := []) (fun _ => rfl) ?_
      refine mEnds.cut (l := [some (.ref 10), some (.int x1), none, none, some (.int (nI 0)), none]) ⟨rfl, ⟨rfl, ⟨rfl, trivial⟩⟩⟩ ?_
      exact ok_M_hourOn_222 FU (nI 0) s _ hf
def M_hourOn_8 (x1 : Int32) (x2 : Int32) (x3 : Int32) : Nat → Int32 → sg → Option sg
  | 0, _, _ => none
  | fu + 1, x4, s =>
  if x4 < s 10 1 then
    (midx ((x1 + (nI 6)) + x4) 312).bind fun j1 =>
    (midx (x1 + x4) 312).bind fun j2 =>
    (midx x4 6).bind fun j3 =>
    (some (up s 16 j3 (-(((s 11 j1) * ((s 11 j2) - x2)) / (nI 10))))).bind fun s1 =>
    (midx ((x1 + (nI 30)) + x4) 312).bind fun j4 =>
    if s1 11 j4 = nI 1 then
      if x3 = 0 then
        (midx x4 6).bind fun j5 =>
        (midx ((x1 + (nI 12)) + x4) 312).bind fun j6 =>
        (midx x4 6).bind fun j7 =>
        (some (up s1 16 j7 ((s1 16 j5) + (s1 11 j6)))).bind fun s2 =>
        (midx (x1 + (nI 50)) 312).bind fun j8 =>
        (midx (x1 + (nI 50)) 312).bind fun j9 =>
        if s2 11 j9 < nI 9999 then
          M_hourOn_124 (M_hourOn_8 x1 x2 x3 fu) x1 x2 x3 x4 (nI 1) (s2 11 j8) (x1 + (nI 50)) s2
        else
          M_hourOn_124 (M_hourOn_8 x1 x2 x3 fu) x1 x2 x3 x4 (nI 0) (s2 11 j8) (x1 + (nI 50)) s2
      else
        M_hourOn_8 x1 x2 x3 fu (x4 + (nI 1)) s1
    else
      M_hourOn_8 x1 x2 x3 fu (x4 + (nI 1)) s1
  else
    M_hourOn_135 x1 FU (nI 0) s
set_option maxRecDepth 100000 in
theorem ok_M_hourOn_8 {x1 : Int32} {x2 : Int32} {x3 : Int32} : ∀ (fu : Nat) (x4 : Int32) (s : sg) (rv : sg), M_hourOn_8 x1 x2 x3 fu x4 s = some rv → mEnds [] 2 132 (8, [some (.ref 10), some (.int x1), some (.int x2), some (.int x3), some (.int x4), none], [], hp shM s, 0, 0) (none, hp shM rv, 0, 0)
  | 0, _, _, _, hf => by cases hf
  | fu + 1, x4, s, rv, hf => by
    rw [M_hourOn_8] at hf
    refine mEnds.stp 2 (pc' := 11) (l' := [some (.ref 10), some (.int x1), some (.int x2), some (.int x3), some (.int x4), none]) (st' := [.ref 10, .int x4]) (fun _ => rfl) ?_
    refine t_gi (rfl : mfetch 132 11 = some (11, .getfield 139, 3, 5, 1, 0)) rfl rfl ?_
    by_cases hc1 : x4 < s 10 1
    · rw [if_pos hc1] at hf
      refine t_cF (rfl : mfetch 132 14 = some (14, .if_icmp .ge 118, 3, 0, 0, 0)) (k_ge' hc1) ?_
      refine mEnds.stp 1 (pc' := 18) (l' := [some (.ref 10), some (.int x1), some (.int x2), some (.int x3), some (.int x4), none]) (st' := [.ref 10]) (fun _ => rfl) ?_
      refine t_gr (rfl : mfetch 132 18 = some (18, .getfield 25, 3, 5, 18, 0)) rfl rfl ?_
      refine mEnds.stp 2 (pc' := 24) (l' := [some (.ref 10), some (.int x1), some (.int x2), some (.int x3), some (.int x4), none]) (st' := [.ref 10, .int x4, .ref 16]) (fun _ => rfl) ?_
      refine t_gr (rfl : mfetch 132 24 = some (24, .getfield 7, 3, 5, 0, 0)) rfl rfl ?_
      refine mEnds.stp 5 (pc' := 34) (l' := [some (.ref 10), some (.int x1), some (.int x2), some (.int x3), some (.int x4), none]) (st' := [.int ((x1 + (nI 6)) + x4), .ref 11, .int x4, .ref 16]) (fun _ => rfl) ?_
      obtain ⟨j1, hj1, hf⟩ := ob hf
      refine t_ia (rfl : mfetch 132 34 = some (34, .iaload, 1, 0, 0, 0)) rfl rfl hj1 ?_
      refine mEnds.stp 1 (pc' := 36) (l' := [some (.ref 10), some (.int x1), some (.int x2), some (.int x3), some (.int x4), none]) (st' := [.ref 10, .int (s 11 j1), .int x4, .ref 16]) (fun _ => rfl) ?_
      refine t_gr (rfl : mfetch 132 36 = some (36, .getfield 7, 3, 5, 0, 0)) rfl rfl ?_
      refine mEnds.stp 3 (pc' := 43) (l' := [some (.ref 10), some (.int x1), some (.int x2), some (.int x3), some (.int x4), none]) (st' := [.int (x1 + x4), .ref 11, .int (s 11 j1), .int x4, .ref 16]) (fun _ => rfl) ?_
      obtain ⟨j2, hj2, hf⟩ := ob hf
      refine t_ia (rfl : mfetch 132 43 = some (43, .iaload, 1, 0, 0, 0)) rfl rfl hj2 ?_
      refine mEnds.stp 6 (pc' := 51) (l' := [some (.ref 10), some (.int x1), some (.int x2), some (.int x3), some (.int x4), none]) (st' := [.int (-(((s 11 j1) * ((s 11 j2) - x2)) / (nI 10))), .int x4, .ref 16]) (fun _ => rfl) ?_
      obtain ⟨j3, hj3, hf⟩ := ob hf
      obtain ⟨s1, hs1, hf⟩ := ob hf
      refine t_is (rfl : mfetch 132 51 = some (51, .iastore, 1, 0, 0, 0)) rfl rfl hj3 hs1 ?_
      refine mEnds.stp 1 (pc' := 53) (l' := [some (.ref 10), some (.int x1), some (.int x2), some (.int x3), some (.int x4), none]) (st' := [.ref 10]) (fun _ => rfl) ?_
      refine t_gr (rfl : mfetch 132 53 = some (53, .getfield 7, 3, 5, 0, 0)) rfl rfl ?_
      refine mEnds.stp 5 (pc' := 63) (l' := [some (.ref 10), some (.int x1), some (.int x2), some (.int x3), some (.int x4), none]) (st' := [.int ((x1 + (nI 30)) + x4), .ref 11]) (fun _ => rfl) ?_
      obtain ⟨j4, hj4, hf⟩ := ob hf
      refine t_ia (rfl : mfetch 132 63 = some (63, .iaload, 1, 0, 0, 0)) rfl rfl hj4 ?_
      refine mEnds.stp 1 (pc' := 65) (l' := [some (.ref 10), some (.int x1), some (.int x2), some (.int x3), some (.int x4), none]) (st' := [.int (nI 1), .int (s1 11 j4)]) (fun _ => rfl) ?_
      by_cases hc2 : s1 11 j4 = nI 1
      · rw [if_pos hc2] at hf
        refine t_cF (rfl : mfetch 132 65 = some (65, .if_icmp .ne 61, 3, 0, 0, 0)) (k_ne' hc2) ?_
        refine mEnds.stp 1 (pc' := 69) (l' := [some (.ref 10), some (.int x1), some (.int x2), some (.int x3), some (.int x4), none]) (st' := [.int x3]) (fun _ => rfl) ?_
        by_cases hc3 : x3 = 0
        · rw [if_pos hc3] at hf
          refine t_jF (rfl : mfetch 132 69 = some (69, .ifCond .ne 57, 3, 0, 0, 0)) (k_ne' hc3) ?_
          refine mEnds.stp 1 (pc' := 73) (l' := [some (.ref 10), some (.int x1), some (.int x2), some (.int x3), some (.int x4), none]) (st' := [.ref 10]) (fun _ => rfl) ?_
          refine t_gr (rfl : mfetch 132 73 = some (73, .getfield 25, 3, 5, 18, 0)) rfl rfl ?_
          refine mEnds.stp 2 (pc' := 79) (l' := [some (.ref 10), some (.int x1), some (.int x2), some (.int x3), some (.int x4), none]) (st' := [.int x4, .ref 16, .int x4, .ref 16]) (fun _ => rfl) ?_
          obtain ⟨j5, hj5, hf⟩ := ob hf
          refine t_ia (rfl : mfetch 132 79 = some (79, .iaload, 1, 0, 0, 0)) rfl rfl hj5 ?_
          refine mEnds.stp 1 (pc' := 81) (l' := [some (.ref 10), some (.int x1), some (.int x2), some (.int x3), some (.int x4), none]) (st' := [.ref 10, .int (s1 16 j5), .int x4, .ref 16]) (fun _ => rfl) ?_
          refine t_gr (rfl : mfetch 132 81 = some (81, .getfield 7, 3, 5, 0, 0)) rfl rfl ?_
          refine mEnds.stp 5 (pc' := 91) (l' := [some (.ref 10), some (.int x1), some (.int x2), some (.int x3), some (.int x4), none]) (st' := [.int ((x1 + (nI 12)) + x4), .ref 11, .int (s1 16 j5), .int x4, .ref 16]) (fun _ => rfl) ?_
          obtain ⟨j6, hj6, hf⟩ := ob hf
          refine t_ia (rfl : mfetch 132 91 = some (91, .iaload, 1, 0, 0, 0)) rfl rfl hj6 ?_
          refine mEnds.stp 1 (pc' := 93) (l' := [some (.ref 10), some (.int x1), some (.int x2), some (.int x3), some (.int x4), none]) (st' := [.int ((s1 16 j5) + (s1 11 j6)), .int x4, .ref 16]) (fun _ => rfl) ?_
          obtain ⟨j7, hj7, hf⟩ := ob hf
          obtain ⟨s2, hs2, hf⟩ := ob hf
          refine t_is (rfl : mfetch 132 93 = some (93, .iastore, 1, 0, 0, 0)) rfl rfl hj7 hs2 ?_
          refine mEnds.stp 1 (pc' := 95) (l' := [some (.ref 10), some (.int x1), some (.int x2), some (.int x3), some (.int x4), none]) (st' := [.ref 10]) (fun _ => rfl) ?_
          refine t_gr (rfl : mfetch 132 95 = some (95, .getfield 7, 3, 5, 0, 0)) rfl rfl ?_
          refine mEnds.stp 4 (pc' := 103) (l' := [some (.ref 10), some (.int x1), some (.int x2), some (.int x3), some (.int x4), none]) (st' := [.int (x1 + (nI 50)), .ref 11, .int (x1 + (nI 50)), .ref 11]) (fun _ => rfl) ?_
          obtain ⟨j8, hj8, hf⟩ := ob hf
          refine t_ia (rfl : mfetch 132 103 = some (103, .iaload, 1, 0, 0, 0)) rfl rfl hj8 ?_
          refine mEnds.stp 1 (pc' := 105) (l' := [some (.ref 10), some (.int x1), some (.int x2), some (.int x3), some (.int x4), none]) (st' := [.ref 10, .int (s2 11 j8), .int (x1 + (nI 50)), .ref 11]) (fun _ => rfl) ?_
          refine t_gr (rfl : mfetch 132 105 = some (105, .getfield 7, 3, 5, 0, 0)) rfl rfl ?_
          refine mEnds.stp 3 (pc' := 112) (l' := [some (.ref 10), some (.int x1), some (.int x2), some (.int x3), some (.int x4), none]) (st' := [.int (x1 + (nI 50)), .ref 11, .int (s2 11 j8), .int (x1 + (nI 50)), .ref 11]) (fun _ => rfl) ?_
          obtain ⟨j9, hj9, hf⟩ := ob hf
          refine t_ia (rfl : mfetch 132 112 = some (112, .iaload, 1, 0, 0, 0)) rfl rfl hj9 ?_
          refine mEnds.stp 1 (pc' := 116) (l' := [some (.ref 10), some (.int x1), some (.int x2), some (.int x3), some (.int x4), none]) (st' := [.int (nI 9999), .int (s2 11 j9), .int (s2 11 j8), .int (x1 + (nI 50)), .ref 11]) (fun _ => rfl) ?_
          by_cases hc4 : s2 11 j9 < nI 9999
          · rw [if_pos hc4] at hf
            refine t_cF (rfl : mfetch 132 116 = some (116, .if_icmp .ge 7, 3, 0, 0, 0)) (k_ge' hc4) ?_
            refine mEnds.stp 2 (pc' := 124) (l' := [some (.ref 10), some (.int x1), some (.int x2), some (.int x3), some (.int x4), none]) (st' := [.int (nI 1), .int (s2 11 j8), .int (x1 + (nI 50)), .ref 11]) (fun _ => rfl) ?_
            refine mEnds.cut (l := [some (.ref 10), some (.int x1), some (.int x2), some (.int x3), some (.int x4), none]) ⟨rfl, ⟨rfl, ⟨rfl, ⟨rfl, ⟨rfl, trivial⟩⟩⟩⟩⟩ ?_
            exact ok_M_hourOn_124 (ok_M_hourOn_8 fu) hf
          · rw [if_neg hc4] at hf
            refine t_cT (t := 123) (rfl : mfetch 132 116 = some (116, .if_icmp .ge 7, 3, 0, 0, 0)) rfl (k_ge hc4) ?_
            refine mEnds.stp 1 (pc' := 124) (l' := [some (.ref 10), some (.int x1), some (.int x2), some (.int x3), some (.int x4), none]) (st' := [.int (nI 0), .int (s2 11 j8), .int (x1 + (nI 50)), .ref 11]) (fun _ => rfl) ?_
            refine mEnds.cut (l := [some (.ref 10), some (.int x1), some (.int x2), some (.int x3), some (.int x4), none]) ⟨rfl, ⟨rfl, ⟨rfl, ⟨rfl, ⟨rfl, trivial⟩⟩⟩⟩⟩ ?_
            exact ok_M_hourOn_124 (ok_M_hourOn_8 fu) hf
        · rw [if_neg hc3] at hf
          refine t_jT (t := 126) (rfl : mfetch 132 69 = some (69, .ifCond .ne 57, 3, 0, 0, 0)) rfl (k_ne hc3) ?_
          refine mEnds.stp 2 (pc' := 8) (l' := [some (.ref 10), some (.int x1), some (.int x2), some (.int x3), some (.int (x4 + (nI 1))), none]) (st' := []) (fun _ => rfl) ?_
          refine mEnds.cut (l := [some (.ref 10), some (.int x1), some (.int x2), some (.int x3), some (.int (x4 + (nI 1))), none]) ⟨rfl, ⟨rfl, ⟨rfl, ⟨rfl, ⟨rfl, trivial⟩⟩⟩⟩⟩ ?_
          exact ok_M_hourOn_8 fu (x4 + (nI 1)) s1 _ hf
      · rw [if_neg hc2] at hf
        refine t_cT (t := 126) (rfl : mfetch 132 65 = some (65, .if_icmp .ne 61, 3, 0, 0, 0)) rfl (k_ne hc2) ?_
        refine mEnds.stp 2 (pc' := 8) (l' := [some (.ref 10), some (.int x1), some (.int x2), some (.int x3), some (.int (x4 + (nI 1))), none]) (st' := []) (fun _ => rfl) ?_
        refine mEnds.cut (l := [some (.ref 10), some (.int x1), some (.int x2), some (.int x3), some (.int (x4 + (nI 1))), none]) ⟨rfl, ⟨rfl, ⟨rfl, ⟨rfl, ⟨rfl, trivial⟩⟩⟩⟩⟩ ?_
        exact ok_M_hourOn_8 fu (x4 + (nI 1)) s1 _ hf
    · rw [if_neg hc1] at hf
      refine t_cT (t := 132) (rfl : mfetch 132 14 = some (14, .if_icmp .ge 118, 3, 0, 0, 0)) rfl (k_ge hc1) ?_
      refine mEnds.stp 2 (pc' := 135) (l' := [some (.ref 10), some (.int x1), some (.int x2), some (.int x3), some (.int (nI 0)), none]) (st' := []) (fun _ => rfl) ?_
      refine mEnds.cut (l := [some (.ref 10), some (.int x1), none, none, some (.int (nI 0)), none]) ⟨rfl, ⟨rfl, ⟨rfl, trivial⟩⟩⟩ ?_
      exact ok_M_hourOn_135 FU (nI 0) s _ hf
def M_hourOn (x1 : Int32) (x2 : Int32) (x3 : Int32) (s : sg) : Option sg :=
  (M_tonguesOn x1 s).bind fun s1 =>
  M_hourOn_8 x1 x2 x3 FU (nI 0) s1
set_option maxRecDepth 100000 in
theorem ok_M_hourOn {x1 : Int32} {x2 : Int32} {x3 : Int32} {s : sg} {rv : sg} (hf : M_hourOn x1 x2 x3 s = some rv) : mEnds [] 2 132 (0, [some (.ref 10), some (.int x1), some (.int x2), some (.int x3), none, none], [], hp shM s, 0, 0) (none, hp shM rv, 0, 0) := by
  unfold M_hourOn at hf
  refine mEnds.stp 2 (pc' := 2) (l' := [some (.ref 10), some (.int x1), some (.int x2), some (.int x3), none, none]) (st' := [.int x1, .ref 10]) (fun _ => rfl) ?_
  obtain ⟨s1, hs1, hf⟩ := ob hf
  refine t_cv (as := [.int x1]) (st := []) (rfl : mfetch 132 2 = some (2, .invokevirtual 151, 3, 131, 0, 0)) rfl rfl rfl rfl rfl (ok_M_tonguesOn hs1) ?_
  refine mEnds.stp 2 (pc' := 8) (l' := [some (.ref 10), some (.int x1), some (.int x2), some (.int x3), some (.int (nI 0)), none]) (st' := []) (fun _ => rfl) ?_
  refine mEnds.cut (l := [some (.ref 10), some (.int x1), some (.int x2), some (.int x3), some (.int (nI 0)), none]) ⟨rfl, ⟨rfl, ⟨rfl, ⟨rfl, ⟨rfl, trivial⟩⟩⟩⟩⟩ ?_
  exact ok_M_hourOn_8 FU (nI 0) s1 _ hf
def M_outOn (x1 : Int32) (s : sg) : Option Int32 :=
  (midx (x1 + (nI 49)) 312).bind fun j1 =>
  (midx ((x1 + (nI 41)) + ((s 11 j1) - (s 11 j1) / (nI 8) * (nI 8))) 312).bind fun j2 =>
  some ((s 11 j2) + (nI 10))
set_option maxRecDepth 100000 in
theorem ok_M_outOn {x1 : Int32} {s : sg} {rv : Int32} (hf : M_outOn x1 s = some rv) : mEnds [] 0 133 (0, [some (.ref 10), some (.int x1)], [], hp shM s, 0, 0) (some (.int rv), hp shM s, 0, 0) := by
  unfold M_outOn at hf
  refine mEnds.stp 1 (pc' := 1) (l' := [some (.ref 10), some (.int x1)]) (st' := [.ref 10]) (fun _ => rfl) ?_
  refine t_gr (rfl : mfetch 133 1 = some (1, .getfield 7, 3, 5, 0, 0)) rfl rfl ?_
  refine mEnds.stp 4 (pc' := 9) (l' := [some (.ref 10), some (.int x1)]) (st' := [.ref 10, .int (x1 + (nI 41)), .ref 11]) (fun _ => rfl) ?_
  refine t_gr (rfl : mfetch 133 9 = some (9, .getfield 7, 3, 5, 0, 0)) rfl rfl ?_
  refine mEnds.stp 3 (pc' := 16) (l' := [some (.ref 10), some (.int x1)]) (st' := [.int (x1 + (nI 49)), .ref 11, .int (x1 + (nI 41)), .ref 11]) (fun _ => rfl) ?_
  obtain ⟨j1, hj1, hf⟩ := ob hf
  refine t_ia (rfl : mfetch 133 16 = some (16, .iaload, 1, 0, 0, 0)) rfl rfl hj1 ?_
  refine mEnds.stp 3 (pc' := 21) (l' := [some (.ref 10), some (.int x1)]) (st' := [.int ((x1 + (nI 41)) + ((s 11 j1) - (s 11 j1) / (nI 8) * (nI 8))), .ref 11]) (fun _ => rfl) ?_
  obtain ⟨j2, hj2, hf⟩ := ob hf
  refine t_ia (rfl : mfetch 133 21 = some (21, .iaload, 1, 0, 0, 0)) rfl rfl hj2 ?_
  refine mEnds.stp 2 (pc' := 25) (l' := [some (.ref 10), some (.int x1)]) (st' := [.int ((s 11 j2) + (nI 10))]) (fun _ => rfl) ?_
  cases hf; exact mEnds.rt (fun _ => rfl)
def M_goesOn (x1 : Int32) (s : sg) : Option sg :=
  (M_outOn x1 s).bind fun v1 =>
  (M_hourOn x1 v1 (nI 0) s).bind fun s1 =>
  some s1
set_option maxRecDepth 100000 in
theorem ok_M_goesOn {x1 : Int32} {s : sg} {rv : sg} (hf : M_goesOn x1 s = some rv) : mEnds [] 3 134 (0, [some (.ref 10), some (.int x1)], [], hp shM s, 0, 0) (none, hp shM rv, 0, 0) := by
  unfold M_goesOn at hf
  refine mEnds.stp 4 (pc' := 4) (l' := [some (.ref 10), some (.int x1)]) (st' := [.int x1, .ref 10, .int x1, .ref 10]) (fun _ => rfl) ?_
  obtain ⟨v1, hv1, hf⟩ := ob hf
  refine t_cv (as := [.int x1]) (st := [.int x1, .ref 10]) (rfl : mfetch 134 4 = some (4, .invokevirtual 154, 3, 133, 0, 0)) rfl rfl rfl rfl rfl ((ok_M_outOn hv1).deep 2) ?_
  refine mEnds.stp 1 (pc' := 8) (l' := [some (.ref 10), some (.int x1)]) (st' := [.int (nI 0), .int v1, .int x1, .ref 10]) (fun _ => rfl) ?_
  obtain ⟨s1, hs1, hf⟩ := ob hf
  refine t_cv (as := [.int x1, .int v1, .int (nI 0)]) (st := []) (rfl : mfetch 134 8 = some (8, .invokevirtual 157, 3, 132, 0, 0)) rfl rfl rfl rfl rfl (ok_M_hourOn hs1) ?_
  cases hf; exact mEnds.rt (fun _ => rfl)
def M_warmthOn_4 (x1 : Int32) (s : sg) : Nat → Int32 → Int32 → Option Int32
  | 0, _, _ => none
  | fu + 1, x2, x3 =>
  if x3 < s 10 1 then
    (midx (x1 + x3) 312).bind fun j1 =>
    M_warmthOn_4 x1 s fu (x2 + (s 11 j1)) (x3 + (nI 1))
  else
    some x2
set_option maxRecDepth 100000 in
theorem ok_M_warmthOn_4 {x1 : Int32} {s : sg} : ∀ (fu : Nat) (x2 : Int32) (x3 : Int32) (rv : Int32), M_warmthOn_4 x1 s fu x2 x3 = some rv → mEnds [] 0 135 (4, [some (.ref 10), some (.int x1), some (.int x2), some (.int x3)], [], hp shM s, 0, 0) (some (.int rv), hp shM s, 0, 0)
  | 0, _, _, _, hf => by cases hf
  | fu + 1, x2, x3, rv, hf => by
    rw [M_warmthOn_4] at hf
    refine mEnds.stp 2 (pc' := 6) (l' := [some (.ref 10), some (.int x1), some (.int x2), some (.int x3)]) (st' := [.ref 10, .int x3]) (fun _ => rfl) ?_
    refine t_gi (rfl : mfetch 135 6 = some (6, .getfield 139, 3, 5, 1, 0)) rfl rfl ?_
    by_cases hc1 : x3 < s 10 1
    · rw [if_pos hc1] at hf
      refine t_cF (rfl : mfetch 135 9 = some (9, .if_icmp .ge 20, 3, 0, 0, 0)) (k_ge' hc1) ?_
      refine mEnds.stp 2 (pc' := 14) (l' := [some (.ref 10), some (.int x1), some (.int x2), some (.int x3)]) (st' := [.ref 10, .int x2]) (fun _ => rfl) ?_
      refine t_gr (rfl : mfetch 135 14 = some (14, .getfield 7, 3, 5, 0, 0)) rfl rfl ?_
      refine mEnds.stp 3 (pc' := 20) (l' := [some (.ref 10), some (.int x1), some (.int x2), some (.int x3)]) (st' := [.int (x1 + x3), .ref 11, .int x2]) (fun _ => rfl) ?_
      obtain ⟨j1, hj1, hf⟩ := ob hf
      refine t_ia (rfl : mfetch 135 20 = some (20, .iaload, 1, 0, 0, 0)) rfl rfl hj1 ?_
      refine mEnds.stp 4 (pc' := 4) (l' := [some (.ref 10), some (.int x1), some (.int (x2 + (s 11 j1))), some (.int (x3 + (nI 1)))]) (st' := []) (fun _ => rfl) ?_
      refine mEnds.cut (l := [some (.ref 10), some (.int x1), some (.int (x2 + (s 11 j1))), some (.int (x3 + (nI 1)))]) ⟨rfl, ⟨rfl, ⟨rfl, ⟨rfl, trivial⟩⟩⟩⟩ ?_
      exact ok_M_warmthOn_4 fu (x2 + (s 11 j1)) (x3 + (nI 1)) _ hf
    · rw [if_neg hc1] at hf
      refine t_cT (t := 29) (rfl : mfetch 135 9 = some (9, .if_icmp .ge 20, 3, 0, 0, 0)) rfl (k_ge hc1) ?_
      refine mEnds.stp 1 (pc' := 30) (l' := [some (.ref 10), some (.int x1), some (.int x2), some (.int x3)]) (st' := [.int x2]) (fun _ => rfl) ?_
      cases hf; exact mEnds.rt (fun _ => rfl)
def M_warmthOn (x1 : Int32) (s : sg) : Option Int32 :=
  M_warmthOn_4 x1 s FU (nI 0) (nI 0)
set_option maxRecDepth 100000 in
theorem ok_M_warmthOn {x1 : Int32} {s : sg} {rv : Int32} (hf : M_warmthOn x1 s = some rv) : mEnds [] 0 135 (0, [some (.ref 10), some (.int x1), none, none], [], hp shM s, 0, 0) (some (.int rv), hp shM s, 0, 0) := by
  unfold M_warmthOn at hf
  refine mEnds.stp 4 (pc' := 4) (l' := [some (.ref 10), some (.int x1), some (.int (nI 0)), some (.int (nI 0))]) (st' := []) (fun _ => rfl) ?_
  refine mEnds.cut (l := [some (.ref 10), some (.int x1), some (.int (nI 0)), some (.int (nI 0))]) ⟨rfl, ⟨rfl, ⟨rfl, ⟨rfl, trivial⟩⟩⟩⟩ ?_
  exact ok_M_warmthOn_4 FU (nI 0) (nI 0) _ hf
def M_onOn_4 (x1 : Int32) (s : sg) : Nat → Int32 → Int32 → Option Int32
  | 0, _, _ => none
  | fu + 1, x2, x3 =>
  if x3 < s 10 1 then
    (midx ((x1 + (nI 30)) + x3) 312).bind fun j1 =>
    M_onOn_4 x1 s fu (x2 ||| ((s 11 j1) <<< (x3 &&& 31))) (x3 + (nI 1))
  else
    some x2
set_option maxRecDepth 100000 in
theorem ok_M_onOn_4 {x1 : Int32} {s : sg} : ∀ (fu : Nat) (x2 : Int32) (x3 : Int32) (rv : Int32), M_onOn_4 x1 s fu x2 x3 = some rv → mEnds [] 0 136 (4, [some (.ref 10), some (.int x1), some (.int x2), some (.int x3)], [], hp shM s, 0, 0) (some (.int rv), hp shM s, 0, 0)
  | 0, _, _, _, hf => by cases hf
  | fu + 1, x2, x3, rv, hf => by
    rw [M_onOn_4] at hf
    refine mEnds.stp 2 (pc' := 6) (l' := [some (.ref 10), some (.int x1), some (.int x2), some (.int x3)]) (st' := [.ref 10, .int x3]) (fun _ => rfl) ?_
    refine t_gi (rfl : mfetch 136 6 = some (6, .getfield 139, 3, 5, 1, 0)) rfl rfl ?_
    by_cases hc1 : x3 < s 10 1
    · rw [if_pos hc1] at hf
      refine t_cF (rfl : mfetch 136 9 = some (9, .if_icmp .ge 25, 3, 0, 0, 0)) (k_ge' hc1) ?_
      refine mEnds.stp 2 (pc' := 14) (l' := [some (.ref 10), some (.int x1), some (.int x2), some (.int x3)]) (st' := [.ref 10, .int x2]) (fun _ => rfl) ?_
      refine t_gr (rfl : mfetch 136 14 = some (14, .getfield 7, 3, 5, 0, 0)) rfl rfl ?_
      refine mEnds.stp 5 (pc' := 23) (l' := [some (.ref 10), some (.int x1), some (.int x2), some (.int x3)]) (st' := [.int ((x1 + (nI 30)) + x3), .ref 11, .int x2]) (fun _ => rfl) ?_
      obtain ⟨j1, hj1, hf⟩ := ob hf
      refine t_ia (rfl : mfetch 136 23 = some (23, .iaload, 1, 0, 0, 0)) rfl rfl hj1 ?_
      refine mEnds.stp 6 (pc' := 4) (l' := [some (.ref 10), some (.int x1), some (.int (x2 ||| ((s 11 j1) <<< (x3 &&& 31)))), some (.int (x3 + (nI 1)))]) (st' := []) (fun _ => rfl) ?_
      refine mEnds.cut (l := [some (.ref 10), some (.int x1), some (.int (x2 ||| ((s 11 j1) <<< (x3 &&& 31)))), some (.int (x3 + (nI 1)))]) ⟨rfl, ⟨rfl, ⟨rfl, ⟨rfl, trivial⟩⟩⟩⟩ ?_
      exact ok_M_onOn_4 fu (x2 ||| ((s 11 j1) <<< (x3 &&& 31))) (x3 + (nI 1)) _ hf
    · rw [if_neg hc1] at hf
      refine t_cT (t := 34) (rfl : mfetch 136 9 = some (9, .if_icmp .ge 25, 3, 0, 0, 0)) rfl (k_ge hc1) ?_
      refine mEnds.stp 1 (pc' := 35) (l' := [some (.ref 10), some (.int x1), some (.int x2), some (.int x3)]) (st' := [.int x2]) (fun _ => rfl) ?_
      cases hf; exact mEnds.rt (fun _ => rfl)
def M_onOn (x1 : Int32) (s : sg) : Option Int32 :=
  M_onOn_4 x1 s FU (nI 0) (nI 0)
set_option maxRecDepth 100000 in
theorem ok_M_onOn {x1 : Int32} {s : sg} {rv : Int32} (hf : M_onOn x1 s = some rv) : mEnds [] 0 136 (0, [some (.ref 10), some (.int x1), none, none], [], hp shM s, 0, 0) (some (.int rv), hp shM s, 0, 0) := by
  unfold M_onOn at hf
  refine mEnds.stp 4 (pc' := 4) (l' := [some (.ref 10), some (.int x1), some (.int (nI 0)), some (.int (nI 0))]) (st' := []) (fun _ => rfl) ?_
  refine mEnds.cut (l := [some (.ref 10), some (.int x1), some (.int (nI 0)), some (.int (nI 0))]) ⟨rfl, ⟨rfl, ⟨rfl, ⟨rfl, trivial⟩⟩⟩⟩ ?_
  exact ok_M_onOn_4 FU (nI 0) (nI 0) _ hf
def M_coldestOn_17 (x1 : Int32) (s : sg) : Nat → Int32 → Int32 → Option Int32
  | 0, _, _ => none
  | fu + 1, x2, x3 =>
  if x3 < s 10 1 then
    (midx (x1 + x3) 312).bind fun j1 =>
    if s 11 j1 < x2 then
      (midx (x1 + x3) 312).bind fun j2 =>
      M_coldestOn_17 x1 s fu (s 11 j2) (x3 + (nI 1))
    else
      M_coldestOn_17 x1 s fu x2 (x3 + (nI 1))
  else
    some x2
set_option maxRecDepth 100000 in
theorem ok_M_coldestOn_17 {x1 : Int32} {s : sg} : ∀ (fu : Nat) (x2 : Int32) (x3 : Int32) (rv : Int32), M_coldestOn_17 x1 s fu x2 x3 = some rv → mEnds [] 0 137 (17, [some (.ref 10), some (.int x1), some (.int x2), some (.int x3)], [], hp shM s, 0, 0) (some (.int rv), hp shM s, 0, 0)
  | 0, _, _, _, hf => by cases hf
  | fu + 1, x2, x3, rv, hf => by
    rw [M_coldestOn_17] at hf
    refine mEnds.stp 2 (pc' := 19) (l' := [some (.ref 10), some (.int x1), some (.int x2), some (.int x3)]) (st' := [.ref 10, .int x3]) (fun _ => rfl) ?_
    refine t_gi (rfl : mfetch 137 19 = some (19, .getfield 139, 3, 5, 1, 0)) rfl rfl ?_
    by_cases hc1 : x3 < s 10 1
    · rw [if_pos hc1] at hf
      refine t_cF (rfl : mfetch 137 22 = some (22, .if_icmp .ge 34, 3, 0, 0, 0)) (k_ge' hc1) ?_
      refine mEnds.stp 1 (pc' := 26) (l' := [some (.ref 10), some (.int x1), some (.int x2), some (.int x3)]) (st' := [.ref 10]) (fun _ => rfl) ?_
      refine t_gr (rfl : mfetch 137 26 = some (26, .getfield 7, 3, 5, 0, 0)) rfl rfl ?_
      refine mEnds.stp 3 (pc' := 32) (l' := [some (.ref 10), some (.int x1), some (.int x2), some (.int x3)]) (st' := [.int (x1 + x3), .ref 11]) (fun _ => rfl) ?_
      obtain ⟨j1, hj1, hf⟩ := ob hf
      refine t_ia (rfl : mfetch 137 32 = some (32, .iaload, 1, 0, 0, 0)) rfl rfl hj1 ?_
      refine mEnds.stp 1 (pc' := 34) (l' := [some (.ref 10), some (.int x1), some (.int x2), some (.int x3)]) (st' := [.int x2, .int (s 11 j1)]) (fun _ => rfl) ?_
      by_cases hc2 : s 11 j1 < x2
      · rw [if_pos hc2] at hf
        refine t_cF (rfl : mfetch 137 34 = some (34, .if_icmp .ge 14, 3, 0, 0, 0)) (k_ge' hc2) ?_
        refine mEnds.stp 1 (pc' := 38) (l' := [some (.ref 10), some (.int x1), some (.int x2), some (.int x3)]) (st' := [.ref 10]) (fun _ => rfl) ?_
        refine t_gr (rfl : mfetch 137 38 = some (38, .getfield 7, 3, 5, 0, 0)) rfl rfl ?_
        refine mEnds.stp 3 (pc' := 44) (l' := [some (.ref 10), some (.int x1), some (.int x2), some (.int x3)]) (st' := [.int (x1 + x3), .ref 11]) (fun _ => rfl) ?_
        obtain ⟨j2, hj2, hf⟩ := ob hf
        refine t_ia (rfl : mfetch 137 44 = some (44, .iaload, 1, 0, 0, 0)) rfl rfl hj2 ?_
        refine mEnds.stp 4 (pc' := 17) (l' := [some (.ref 10), some (.int x1), some (.int (s 11 j2)), some (.int (x3 + (nI 1)))]) (st' := []) (fun _ => rfl) ?_
        refine mEnds.cut (l := [some (.ref 10), some (.int x1), some (.int (s 11 j2)), some (.int (x3 + (nI 1)))]) ⟨rfl, ⟨rfl, ⟨rfl, ⟨rfl, trivial⟩⟩⟩⟩ ?_
        exact ok_M_coldestOn_17 fu (s 11 j2) (x3 + (nI 1)) _ hf
      · rw [if_neg hc2] at hf
        refine t_cT (t := 48) (rfl : mfetch 137 34 = some (34, .if_icmp .ge 14, 3, 0, 0, 0)) rfl (k_ge hc2) ?_
        refine mEnds.stp 4 (pc' := 17) (l' := [some (.ref 10), some (.int x1), some (.int x2), some (.int (x3 + (nI 1)))]) (st' := []) (fun _ => rfl) ?_
        refine mEnds.cut (l := [some (.ref 10), some (.int x1), some (.int x2), some (.int (x3 + (nI 1)))]) ⟨rfl, ⟨rfl, ⟨rfl, ⟨rfl, trivial⟩⟩⟩⟩ ?_
        exact ok_M_coldestOn_17 fu x2 (x3 + (nI 1)) _ hf
    · rw [if_neg hc1] at hf
      refine t_cT (t := 56) (rfl : mfetch 137 22 = some (22, .if_icmp .ge 34, 3, 0, 0, 0)) rfl (k_ge hc1) ?_
      refine mEnds.stp 1 (pc' := 57) (l' := [some (.ref 10), some (.int x1), some (.int x2), some (.int x3)]) (st' := [.int x2]) (fun _ => rfl) ?_
      cases hf; exact mEnds.rt (fun _ => rfl)
def M_coldestOn (x1 : Int32) (s : sg) : Option Int32 :=
  if s 10 1 = 0 then
    M_coldestOn_17 x1 s FU (-4) (nI 0)
  else
    M_coldestOn_17 x1 s FU (nI 99) (nI 0)
set_option maxRecDepth 100000 in
theorem ok_M_coldestOn {x1 : Int32} {s : sg} {rv : Int32} (hf : M_coldestOn x1 s = some rv) : mEnds [] 0 137 (0, [some (.ref 10), some (.int x1), none, none], [], hp shM s, 0, 0) (some (.int rv), hp shM s, 0, 0) := by
  unfold M_coldestOn at hf
  refine mEnds.stp 1 (pc' := 1) (l' := [some (.ref 10), some (.int x1), none, none]) (st' := [.ref 10]) (fun _ => rfl) ?_
  refine t_gi (rfl : mfetch 137 1 = some (1, .getfield 139, 3, 5, 1, 0)) rfl rfl ?_
  by_cases hc1 : s 10 1 = 0
  · rw [if_pos hc1] at hf
    refine t_jF (rfl : mfetch 137 4 = some (4, .ifCond .ne 8, 3, 0, 0, 0)) (k_ne' hc1) ?_
    refine mEnds.stp 5 (pc' := 17) (l' := [some (.ref 10), some (.int x1), some (.int (-4)), some (.int (nI 0))]) (st' := []) (fun _ => rfl) ?_
    refine mEnds.cut (l := [some (.ref 10), some (.int x1), some (.int (-4)), some (.int (nI 0))]) ⟨rfl, ⟨rfl, ⟨rfl, ⟨rfl, trivial⟩⟩⟩⟩ ?_
    exact ok_M_coldestOn_17 FU (-4) (nI 0) _ hf
  · rw [if_neg hc1] at hf
    refine t_jT (t := 12) (rfl : mfetch 137 4 = some (4, .ifCond .ne 8, 3, 0, 0, 0)) rfl (k_ne hc1) ?_
    refine mEnds.stp 4 (pc' := 17) (l' := [some (.ref 10), some (.int x1), some (.int (nI 99)), some (.int (nI 0))]) (st' := []) (fun _ => rfl) ?_
    refine mEnds.cut (l := [some (.ref 10), some (.int x1), some (.int (nI 99)), some (.int (nI 0))]) ⟨rfl, ⟨rfl, ⟨rfl, ⟨rfl, trivial⟩⟩⟩⟩ ?_
    exact ok_M_coldestOn_17 FU (nI 99) (nI 0) _ hf
def M_rule (x1 : Int32) (s : sg) : Option Int32 :=
  if x1 = nI 0 then
    some (s 10 1)
  else
    if x1 = nI 1 then
      (midx (nI 49) 312).bind fun j1 =>
      some (s 11 j1)
    else
      if x1 = nI 2 then
        (midx (nI 50) 312).bind fun j2 =>
        some (s 11 j2)
      else
        if x1 = nI 3 then
          (midx (nI 51) 312).bind fun j3 =>
          some (s 11 j3)
        else
          if x1 = nI 4 then
            (M_warmthOn (nI 0) s).bind fun v1 =>
            some v1
          else
            if x1 = nI 5 then
              (M_onOn (nI 0) s).bind fun v2 =>
              some v2
            else
              if x1 = nI 6 then
                (M_outOn (nI 0) s).bind fun v3 =>
                some v3
              else
                some (-1)
set_option maxRecDepth 100000 in
theorem ok_M_rule {x1 : Int32} {s : sg} {rv : Int32} (hf : M_rule x1 s = some rv) : mEnds [] 1 138 (0, [some (.ref 10), some (.int x1)], [], hp shM s, 0, 0) (some (.int rv), hp shM s, 0, 0) := by
  unfold M_rule at hf
  refine mEnds.stp 1 (pc' := 1) (l' := [some (.ref 10), some (.int x1)]) (st' := [.int x1]) (fun _ => rfl) ?_
  by_cases hc1 : x1 = nI 0
  · rw [if_pos hc1] at hf
    refine t_sw hc1 (fun _ _ _ => rfl) (t := 44) ?_
    refine mEnds.stp 1 (pc' := 45) (l' := [some (.ref 10), some (.int x1)]) (st' := [.ref 10]) (fun _ => rfl) ?_
    refine t_gi (rfl : mfetch 138 45 = some (45, .getfield 139, 3, 5, 1, 0)) rfl rfl ?_
    cases hf; exact mEnds.rt (fun _ => rfl)
  · rw [if_neg hc1] at hf
    by_cases hc2 : x1 = nI 1
    · rw [if_pos hc2] at hf
      refine t_sw hc2 (fun _ _ _ => rfl) (t := 49) ?_
      refine mEnds.stp 1 (pc' := 50) (l' := [some (.ref 10), some (.int x1)]) (st' := [.ref 10]) (fun _ => rfl) ?_
      refine t_gr (rfl : mfetch 138 50 = some (50, .getfield 7, 3, 5, 0, 0)) rfl rfl ?_
      refine mEnds.stp 1 (pc' := 55) (l' := [some (.ref 10), some (.int x1)]) (st' := [.int (nI 49), .ref 11]) (fun _ => rfl) ?_
      obtain ⟨j1, hj1, hf⟩ := ob hf
      refine t_ia (rfl : mfetch 138 55 = some (55, .iaload, 1, 0, 0, 0)) rfl rfl hj1 ?_
      cases hf; exact mEnds.rt (fun _ => rfl)
    · rw [if_neg hc2] at hf
      by_cases hc3 : x1 = nI 2
      · rw [if_pos hc3] at hf
        refine t_sw hc3 (fun _ _ _ => rfl) (t := 57) ?_
        refine mEnds.stp 1 (pc' := 58) (l' := [some (.ref 10), some (.int x1)]) (st' := [.ref 10]) (fun _ => rfl) ?_
        refine t_gr (rfl : mfetch 138 58 = some (58, .getfield 7, 3, 5, 0, 0)) rfl rfl ?_
        refine mEnds.stp 1 (pc' := 63) (l' := [some (.ref 10), some (.int x1)]) (st' := [.int (nI 50), .ref 11]) (fun _ => rfl) ?_
        obtain ⟨j2, hj2, hf⟩ := ob hf
        refine t_ia (rfl : mfetch 138 63 = some (63, .iaload, 1, 0, 0, 0)) rfl rfl hj2 ?_
        cases hf; exact mEnds.rt (fun _ => rfl)
      · rw [if_neg hc3] at hf
        by_cases hc4 : x1 = nI 3
        · rw [if_pos hc4] at hf
          refine t_sw hc4 (fun _ _ _ => rfl) (t := 65) ?_
          refine mEnds.stp 1 (pc' := 66) (l' := [some (.ref 10), some (.int x1)]) (st' := [.ref 10]) (fun _ => rfl) ?_
          refine t_gr (rfl : mfetch 138 66 = some (66, .getfield 7, 3, 5, 0, 0)) rfl rfl ?_
          refine mEnds.stp 1 (pc' := 71) (l' := [some (.ref 10), some (.int x1)]) (st' := [.int (nI 51), .ref 11]) (fun _ => rfl) ?_
          obtain ⟨j3, hj3, hf⟩ := ob hf
          refine t_ia (rfl : mfetch 138 71 = some (71, .iaload, 1, 0, 0, 0)) rfl rfl hj3 ?_
          cases hf; exact mEnds.rt (fun _ => rfl)
        · rw [if_neg hc4] at hf
          by_cases hc5 : x1 = nI 4
          · rw [if_pos hc5] at hf
            refine t_sw hc5 (fun _ _ _ => rfl) (t := 73) ?_
            refine mEnds.stp 2 (pc' := 75) (l' := [some (.ref 10), some (.int x1)]) (st' := [.int (nI 0), .ref 10]) (fun _ => rfl) ?_
            obtain ⟨v1, hv1, hf⟩ := ob hf
            refine t_cv (as := [.int (nI 0)]) (st := []) (rfl : mfetch 138 75 = some (75, .invokevirtual 161, 3, 135, 0, 0)) rfl rfl rfl rfl rfl (ok_M_warmthOn hv1) ?_
            cases hf; exact mEnds.rt (fun _ => rfl)
          · rw [if_neg hc5] at hf
            by_cases hc6 : x1 = nI 5
            · rw [if_pos hc6] at hf
              refine t_sw hc6 (fun _ _ _ => rfl) (t := 79) ?_
              refine mEnds.stp 2 (pc' := 81) (l' := [some (.ref 10), some (.int x1)]) (st' := [.int (nI 0), .ref 10]) (fun _ => rfl) ?_
              obtain ⟨v2, hv2, hf⟩ := ob hf
              refine t_cv (as := [.int (nI 0)]) (st := []) (rfl : mfetch 138 81 = some (81, .invokevirtual 164, 3, 136, 0, 0)) rfl rfl rfl rfl rfl (ok_M_onOn hv2) ?_
              cases hf; exact mEnds.rt (fun _ => rfl)
            · rw [if_neg hc6] at hf
              by_cases hc7 : x1 = nI 6
              · rw [if_pos hc7] at hf
                refine t_sw hc7 (fun _ _ _ => rfl) (t := 85) ?_
                refine mEnds.stp 2 (pc' := 87) (l' := [some (.ref 10), some (.int x1)]) (st' := [.int (nI 0), .ref 10]) (fun _ => rfl) ?_
                obtain ⟨v3, hv3, hf⟩ := ob hf
                refine t_cv (as := [.int (nI 0)]) (st := []) (rfl : mfetch 138 87 = some (87, .invokevirtual 154, 3, 133, 0, 0)) rfl rfl rfl rfl rfl (ok_M_outOn hv3) ?_
                cases hf; exact mEnds.rt (fun _ => rfl)
              · rw [if_neg hc7] at hf
                refine t_swD (t := 91) (rfl : mfetch 138 1 = some (1, .tableswitch 90 0 6 #[43, 48, 56, 64, 72, 78, 84], 43, 0, 0, 0)) rfl (sw_out (fun k hk => match k, hk with | 0, _ => hc1 | 1, _ => hc2 | 2, _ => hc3 | 3, _ => hc4 | 4, _ => hc5 | 5, _ => hc6 | 6, _ => hc7 | k + 7, hk => absurd hk (by omega))) ?_
                refine mEnds.stp 1 (pc' := 92) (l' := [some (.ref 10), some (.int x1)]) (st' := [.int (-1)]) (fun _ => rfl) ?_
                cases hf; exact mEnds.rt (fun _ => rfl)
def M_room (x1 : Int32) (x2 : Int32) (s : sg) : Option Int32 :=
  (M_isRoom x1 s).bind fun v1 =>
  if v1 = 0 then
    some (-1)
  else
    (M_in x2.toInt64 (0 : Int64) (7 : Int64) s).bind fun v2 =>
    if v2 = 0 then
      some (-1)
    else
      if x2 < nI 3 then
        (midx (((nI 6) * x2) + x1) 312).bind fun j4 =>
        some (s 11 j4)
      else
        if x2 = nI 7 then
          (midx ((nI 30) + x1) 312).bind fun j3 =>
          some (s 11 j3)
        else
          (M_hasTongue x1 s).bind fun v3 =>
          if v3 = 0 then
            some (-4)
          else
            if x2 = nI 3 then
              (midx ((nI 18) + x1) 312).bind fun j2 =>
              some ((s 11 j2) - (nI 1))
            else
              if x2 = nI 4 then
                (midx ((nI 24) + x1) 312).bind fun j1 =>
                some (s 11 j1)
              else
                if x2 = nI 5 then
                  (M_lowOn (nI 0) x1 s).bind fun v5 =>
                  some ((nI 10) + v5)
                else
                  (M_highOn (nI 0) x1 s).bind fun v4 =>
                  some v4
set_option maxRecDepth 100000 in
theorem ok_M_room {x1 : Int32} {x2 : Int32} {s : sg} {rv : Int32} (hf : M_room x1 x2 s = some rv) : mEnds [] 2 139 (0, [some (.ref 10), some (.int x1), some (.int x2)], [], hp shM s, 0, 0) (some (.int rv), hp shM s, 0, 0) := by
  unfold M_room at hf
  refine mEnds.stp 2 (pc' := 2) (l' := [some (.ref 10), some (.int x1), some (.int x2)]) (st' := [.int x1, .ref 10]) (fun _ => rfl) ?_
  obtain ⟨v1, hv1, hf⟩ := ob hf
  refine t_cv (as := [.int x1]) (st := []) (rfl : mfetch 139 2 = some (2, .invokevirtual 167, 3, 126, 0, 0)) rfl rfl rfl rfl rfl (ok_M_isRoom hv1) ?_
  by_cases hc1 : v1 = 0
  · rw [if_pos hc1] at hf
    refine t_jT (t := 20) (rfl : mfetch 139 5 = some (5, .ifCond .eq 15, 3, 0, 0, 0)) rfl (k_eq hc1) ?_
    refine mEnds.stp 1 (pc' := 21) (l' := [some (.ref 10), some (.int x1), some (.int x2)]) (st' := [.int (-1)]) (fun _ => rfl) ?_
    cases hf; exact mEnds.rt (fun _ => rfl)
  · rw [if_neg hc1] at hf
    refine t_jF (rfl : mfetch 139 5 = some (5, .ifCond .eq 15, 3, 0, 0, 0)) (k_eq' hc1) ?_
    refine mEnds.stp 4 (pc' := 14) (l' := [some (.ref 10), some (.int x1), some (.int x2)]) (st' := [.long (7 : Int64), .long (0 : Int64), .long x2.toInt64]) (fun _ => rfl) ?_
    obtain ⟨v2, hv2, hf⟩ := ob hf
    refine t_cs (as := [.long x2.toInt64, .long (0 : Int64), .long (7 : Int64)]) (st := []) (Or.inl rfl) (rfl : mfetch 139 14 = some (14, .invokestatic 49, 3, 111, 0, 0)) rfl rfl rfl ((ok_M_in hv2).deep 1) ?_
    by_cases hc2 : v2 = 0
    · rw [if_pos hc2] at hf
      refine t_jF (rfl : mfetch 139 17 = some (17, .ifCond .ne 5, 3, 0, 0, 0)) (k_ne' hc2) ?_
      refine mEnds.stp 1 (pc' := 21) (l' := [some (.ref 10), some (.int x1), some (.int x2)]) (st' := [.int (-1)]) (fun _ => rfl) ?_
      cases hf; exact mEnds.rt (fun _ => rfl)
    · rw [if_neg hc2] at hf
      refine t_jT (t := 22) (rfl : mfetch 139 17 = some (17, .ifCond .ne 5, 3, 0, 0, 0)) rfl (k_ne hc2) ?_
      refine mEnds.stp 2 (pc' := 24) (l' := [some (.ref 10), some (.int x1), some (.int x2)]) (st' := [.int (nI 3), .int x2]) (fun _ => rfl) ?_
      by_cases hc3 : x2 < nI 3
      · rw [if_pos hc3] at hf
        refine t_cF (rfl : mfetch 139 24 = some (24, .if_icmp .ge 15, 3, 0, 0, 0)) (k_ge' hc3) ?_
        refine mEnds.stp 1 (pc' := 28) (l' := [some (.ref 10), some (.int x1), some (.int x2)]) (st' := [.ref 10]) (fun _ => rfl) ?_
        refine t_gr (rfl : mfetch 139 28 = some (28, .getfield 7, 3, 5, 0, 0)) rfl rfl ?_
        refine mEnds.stp 5 (pc' := 37) (l' := [some (.ref 10), some (.int x1), some (.int x2)]) (st' := [.int (((nI 6) * x2) + x1), .ref 11]) (fun _ => rfl) ?_
        obtain ⟨j4, hj4, hf⟩ := ob hf
        refine t_ia (rfl : mfetch 139 37 = some (37, .iaload, 1, 0, 0, 0)) rfl rfl hj4 ?_
        cases hf; exact mEnds.rt (fun _ => rfl)
      · rw [if_neg hc3] at hf
        refine t_cT (t := 39) (rfl : mfetch 139 24 = some (24, .if_icmp .ge 15, 3, 0, 0, 0)) rfl (k_ge hc3) ?_
        refine mEnds.stp 2 (pc' := 42) (l' := [some (.ref 10), some (.int x1), some (.int x2)]) (st' := [.int (nI 7), .int x2]) (fun _ => rfl) ?_
        by_cases hc4 : x2 = nI 7
        · rw [if_pos hc4] at hf
          refine t_cF (rfl : mfetch 139 42 = some (42, .if_icmp .ne 13, 3, 0, 0, 0)) (k_ne' hc4) ?_
          refine mEnds.stp 1 (pc' := 46) (l' := [some (.ref 10), some (.int x1), some (.int x2)]) (st' := [.ref 10]) (fun _ => rfl) ?_
          refine t_gr (rfl : mfetch 139 46 = some (46, .getfield 7, 3, 5, 0, 0)) rfl rfl ?_
          refine mEnds.stp 3 (pc' := 53) (l' := [some (.ref 10), some (.int x1), some (.int x2)]) (st' := [.int ((nI 30) + x1), .ref 11]) (fun _ => rfl) ?_
          obtain ⟨j3, hj3, hf⟩ := ob hf
          refine t_ia (rfl : mfetch 139 53 = some (53, .iaload, 1, 0, 0, 0)) rfl rfl hj3 ?_
          cases hf; exact mEnds.rt (fun _ => rfl)
        · rw [if_neg hc4] at hf
          refine t_cT (t := 55) (rfl : mfetch 139 42 = some (42, .if_icmp .ne 13, 3, 0, 0, 0)) rfl (k_ne hc4) ?_
          refine mEnds.stp 2 (pc' := 57) (l' := [some (.ref 10), some (.int x1), some (.int x2)]) (st' := [.int x1, .ref 10]) (fun _ => rfl) ?_
          obtain ⟨v3, hv3, hf⟩ := ob hf
          refine t_cv (as := [.int x1]) (st := []) (rfl : mfetch 139 57 = some (57, .invokevirtual 173, 3, 128, 0, 0)) rfl rfl rfl rfl rfl ((ok_M_hasTongue hv3).deep 1) ?_
          by_cases hc5 : v3 = 0
          · rw [if_pos hc5] at hf
            refine t_jF (rfl : mfetch 139 60 = some (60, .ifCond .ne 6, 3, 0, 0, 0)) (k_ne' hc5) ?_
            refine mEnds.stp 1 (pc' := 65) (l' := [some (.ref 10), some (.int x1), some (.int x2)]) (st' := [.int (-4)]) (fun _ => rfl) ?_
            cases hf; exact mEnds.rt (fun _ => rfl)
          · rw [if_neg hc5] at hf
            refine t_jT (t := 66) (rfl : mfetch 139 60 = some (60, .ifCond .ne 6, 3, 0, 0, 0)) rfl (k_ne hc5) ?_
            refine mEnds.stp 2 (pc' := 68) (l' := [some (.ref 10), some (.int x1), some (.int x2)]) (st' := [.int (nI 3), .int x2]) (fun _ => rfl) ?_
            by_cases hc6 : x2 = nI 3
            · rw [if_pos hc6] at hf
              refine t_cF (rfl : mfetch 139 68 = some (68, .if_icmp .ne 17, 3, 0, 0, 0)) (k_ne' hc6) ?_
              refine mEnds.stp 1 (pc' := 72) (l' := [some (.ref 10), some (.int x1), some (.int x2)]) (st' := [.ref 10]) (fun _ => rfl) ?_
              refine t_gr (rfl : mfetch 139 72 = some (72, .getfield 7, 3, 5, 0, 0)) rfl rfl ?_
              refine mEnds.stp 3 (pc' := 79) (l' := [some (.ref 10), some (.int x1), some (.int x2)]) (st' := [.int ((nI 18) + x1), .ref 11]) (fun _ => rfl) ?_
              obtain ⟨j2, hj2, hf⟩ := ob hf
              refine t_ia (rfl : mfetch 139 79 = some (79, .iaload, 1, 0, 0, 0)) rfl rfl hj2 ?_
              refine mEnds.stp 3 (pc' := 125) (l' := [some (.ref 10), some (.int x1), some (.int x2)]) (st' := [.int ((s 11 j2) - (nI 1))]) (fun _ => rfl) ?_
              cases hf; exact mEnds.rt (fun _ => rfl)
            · rw [if_neg hc6] at hf
              refine t_cT (t := 85) (rfl : mfetch 139 68 = some (68, .if_icmp .ne 17, 3, 0, 0, 0)) rfl (k_ne hc6) ?_
              refine mEnds.stp 2 (pc' := 87) (l' := [some (.ref 10), some (.int x1), some (.int x2)]) (st' := [.int (nI 4), .int x2]) (fun _ => rfl) ?_
              by_cases hc7 : x2 = nI 4
              · rw [if_pos hc7] at hf
                refine t_cF (rfl : mfetch 139 87 = some (87, .if_icmp .ne 15, 3, 0, 0, 0)) (k_ne' hc7) ?_
                refine mEnds.stp 1 (pc' := 91) (l' := [some (.ref 10), some (.int x1), some (.int x2)]) (st' := [.ref 10]) (fun _ => rfl) ?_
                refine t_gr (rfl : mfetch 139 91 = some (91, .getfield 7, 3, 5, 0, 0)) rfl rfl ?_
                refine mEnds.stp 3 (pc' := 98) (l' := [some (.ref 10), some (.int x1), some (.int x2)]) (st' := [.int ((nI 24) + x1), .ref 11]) (fun _ => rfl) ?_
                obtain ⟨j1, hj1, hf⟩ := ob hf
                refine t_ia (rfl : mfetch 139 98 = some (98, .iaload, 1, 0, 0, 0)) rfl rfl hj1 ?_
                refine mEnds.stp 1 (pc' := 125) (l' := [some (.ref 10), some (.int x1), some (.int x2)]) (st' := [.int (s 11 j1)]) (fun _ => rfl) ?_
                cases hf; exact mEnds.rt (fun _ => rfl)
              · rw [if_neg hc7] at hf
                refine t_cT (t := 102) (rfl : mfetch 139 87 = some (87, .if_icmp .ne 15, 3, 0, 0, 0)) rfl (k_ne hc7) ?_
                refine mEnds.stp 2 (pc' := 104) (l' := [some (.ref 10), some (.int x1), some (.int x2)]) (st' := [.int (nI 5), .int x2]) (fun _ => rfl) ?_
                by_cases hc8 : x2 = nI 5
                · rw [if_pos hc8] at hf
                  refine t_cF (rfl : mfetch 139 104 = some (104, .if_icmp .ne 15, 3, 0, 0, 0)) (k_ne' hc8) ?_
                  refine mEnds.stp 4 (pc' := 112) (l' := [some (.ref 10), some (.int x1), some (.int x2)]) (st' := [.int x1, .int (nI 0), .ref 10, .int (nI 10)]) (fun _ => rfl) ?_
                  obtain ⟨v5, hv5, hf⟩ := ob hf
                  refine t_cv (as := [.int (nI 0), .int x1]) (st := [.int (nI 10)]) (rfl : mfetch 139 112 = some (112, .invokevirtual 145, 3, 129, 0, 0)) rfl rfl rfl rfl rfl ((ok_M_lowOn hv5).deep 1) ?_
                  refine mEnds.stp 2 (pc' := 125) (l' := [some (.ref 10), some (.int x1), some (.int x2)]) (st' := [.int ((nI 10) + v5)]) (fun _ => rfl) ?_
                  cases hf; exact mEnds.rt (fun _ => rfl)
                · rw [if_neg hc8] at hf
                  refine t_cT (t := 119) (rfl : mfetch 139 104 = some (104, .if_icmp .ne 15, 3, 0, 0, 0)) rfl (k_ne hc8) ?_
                  refine mEnds.stp 3 (pc' := 122) (l' := [some (.ref 10), some (.int x1), some (.int x2)]) (st' := [.int x1, .int (nI 0), .ref 10]) (fun _ => rfl) ?_
                  obtain ⟨v4, hv4, hf⟩ := ob hf
                  refine t_cv (as := [.int (nI 0), .int x1]) (st := []) (rfl : mfetch 139 122 = some (122, .invokevirtual 148, 3, 130, 0, 0)) rfl rfl rfl rfl rfl ((ok_M_highOn hv4).deep 1) ?_
                  cases hf; exact mEnds.rt (fun _ => rfl)
def M_wall (x1 : Int32) (s : sg) : Option Int32 :=
  (M_isWall x1 s).bind fun v1 =>
  if v1 = 0 then
    some (-1)
  else
    (midx ((nI 36) + x1) 312).bind fun j1 =>
    some ((s 11 j1) + (nI 2))
set_option maxRecDepth 100000 in
theorem ok_M_wall {x1 : Int32} {s : sg} {rv : Int32} (hf : M_wall x1 s = some rv) : mEnds [] 2 140 (0, [some (.ref 10), some (.int x1)], [], hp shM s, 0, 0) (some (.int rv), hp shM s, 0, 0) := by
  unfold M_wall at hf
  refine mEnds.stp 2 (pc' := 2) (l' := [some (.ref 10), some (.int x1)]) (st' := [.int x1, .ref 10]) (fun _ => rfl) ?_
  obtain ⟨v1, hv1, hf⟩ := ob hf
  refine t_cv (as := [.int x1]) (st := []) (rfl : mfetch 140 2 = some (2, .invokevirtual 176, 3, 127, 0, 0)) rfl rfl rfl rfl rfl (ok_M_isWall hv1) ?_
  by_cases hc1 : v1 = 0
  · rw [if_pos hc1] at hf
    refine t_jT (t := 22) (rfl : mfetch 140 5 = some (5, .ifCond .eq 17, 3, 0, 0, 0)) rfl (k_eq hc1) ?_
    refine mEnds.stp 1 (pc' := 23) (l' := [some (.ref 10), some (.int x1)]) (st' := [.int (-1)]) (fun _ => rfl) ?_
    cases hf; exact mEnds.rt (fun _ => rfl)
  · rw [if_neg hc1] at hf
    refine t_jF (rfl : mfetch 140 5 = some (5, .ifCond .eq 17, 3, 0, 0, 0)) (k_eq' hc1) ?_
    refine mEnds.stp 1 (pc' := 9) (l' := [some (.ref 10), some (.int x1)]) (st' := [.ref 10]) (fun _ => rfl) ?_
    refine t_gr (rfl : mfetch 140 9 = some (9, .getfield 7, 3, 5, 0, 0)) rfl rfl ?_
    refine mEnds.stp 3 (pc' := 16) (l' := [some (.ref 10), some (.int x1)]) (st' := [.int ((nI 36) + x1), .ref 11]) (fun _ => rfl) ?_
    obtain ⟨j1, hj1, hf⟩ := ob hf
    refine t_ia (rfl : mfetch 140 16 = some (16, .iaload, 1, 0, 0, 0)) rfl rfl hj1 ?_
    refine mEnds.stp 3 (pc' := 23) (l' := [some (.ref 10), some (.int x1)]) (st' := [.int ((s 11 j1) + (nI 2))]) (fun _ => rfl) ?_
    cases hf; exact mEnds.rt (fun _ => rfl)
def M_outside (x1 : Int32) (s : sg) : Option Int32 :=
  (M_in x1.toInt64 (0 : Int64) (7 : Int64) s).bind fun v1 =>
  if v1 = 0 then
    some (-1)
  else
    (midx ((nI 41) + x1) 312).bind fun j1 =>
    some ((s 11 j1) + (nI 10))
set_option maxRecDepth 100000 in
theorem ok_M_outside {x1 : Int32} {s : sg} {rv : Int32} (hf : M_outside x1 s = some rv) : mEnds [] 1 141 (0, [some (.ref 10), some (.int x1)], [], hp shM s, 0, 0) (some (.int rv), hp shM s, 0, 0) := by
  unfold M_outside at hf
  refine mEnds.stp 4 (pc' := 6) (l' := [some (.ref 10), some (.int x1)]) (st' := [.long (7 : Int64), .long (0 : Int64), .long x1.toInt64]) (fun _ => rfl) ?_
  obtain ⟨v1, hv1, hf⟩ := ob hf
  refine t_cs (as := [.long x1.toInt64, .long (0 : Int64), .long (7 : Int64)]) (st := []) (Or.inl rfl) (rfl : mfetch 141 6 = some (6, .invokestatic 49, 3, 111, 0, 0)) rfl rfl rfl (ok_M_in hv1) ?_
  by_cases hc1 : v1 = 0
  · rw [if_pos hc1] at hf
    refine t_jT (t := 27) (rfl : mfetch 141 9 = some (9, .ifCond .eq 18, 3, 0, 0, 0)) rfl (k_eq hc1) ?_
    refine mEnds.stp 1 (pc' := 28) (l' := [some (.ref 10), some (.int x1)]) (st' := [.int (-1)]) (fun _ => rfl) ?_
    cases hf; exact mEnds.rt (fun _ => rfl)
  · rw [if_neg hc1] at hf
    refine t_jF (rfl : mfetch 141 9 = some (9, .ifCond .eq 18, 3, 0, 0, 0)) (k_eq' hc1) ?_
    refine mEnds.stp 1 (pc' := 13) (l' := [some (.ref 10), some (.int x1)]) (st' := [.ref 10]) (fun _ => rfl) ?_
    refine t_gr (rfl : mfetch 141 13 = some (13, .getfield 7, 3, 5, 0, 0)) rfl rfl ?_
    refine mEnds.stp 3 (pc' := 20) (l' := [some (.ref 10), some (.int x1)]) (st' := [.int ((nI 41) + x1), .ref 11]) (fun _ => rfl) ?_
    obtain ⟨j1, hj1, hf⟩ := ob hf
    refine t_ia (rfl : mfetch 141 20 = some (20, .iaload, 1, 0, 0, 0)) rfl rfl hj1 ?_
    refine mEnds.stp 3 (pc' := 28) (l' := [some (.ref 10), some (.int x1)]) (st' := [.int ((s 11 j1) + (nI 10))]) (fun _ => rfl) ?_
    cases hf; exact mEnds.rt (fun _ => rfl)
def M_puts (x1 : Int32) (x2 : Int32) (x3 : Int32) (x4 : Int32) (s : sg) : Option (Int32 × sg) :=
  if x1 = 0 then
    some ((-1), s)
  else
    (midx x2 312).bind fun j1 =>
    (midx x2 312).bind fun j2 =>
    (some (up s 11 j2 (x3 - x4))).bind fun s1 =>
    some ((s 11 j1) + x4, s1)
set_option maxRecDepth 100000 in
theorem ok_M_puts {x1 : Int32} {x2 : Int32} {x3 : Int32} {x4 : Int32} {s : sg} {rv : (Int32 × sg)} (hf : M_puts x1 x2 x3 x4 s = some rv) : mEnds [] 0 142 (0, [some (.ref 10), some (.int x1), some (.int x2), some (.int x3), some (.int x4), none], [], hp shM s, 0, 0) (some (.int rv.1), hp shM rv.2, 0, 0) := by
  unfold M_puts at hf
  refine mEnds.stp 1 (pc' := 1) (l' := [some (.ref 10), some (.int x1), some (.int x2), some (.int x3), some (.int x4), none]) (st' := [.int x1]) (fun _ => rfl) ?_
  by_cases hc1 : x1 = 0
  · rw [if_pos hc1] at hf
    refine t_jF (rfl : mfetch 142 1 = some (1, .ifCond .ne 5, 3, 0, 0, 0)) (k_ne' hc1) ?_
    refine mEnds.stp 1 (pc' := 5) (l' := [some (.ref 10), some (.int x1), some (.int x2), some (.int x3), some (.int x4), none]) (st' := [.int (-1)]) (fun _ => rfl) ?_
    exact mEnds.rti (Option.some.inj hf) (fun _ => rfl)
  · rw [if_neg hc1] at hf
    refine t_jT (t := 6) (rfl : mfetch 142 1 = some (1, .ifCond .ne 5, 3, 0, 0, 0)) rfl (k_ne hc1) ?_
    refine mEnds.stp 1 (pc' := 7) (l' := [some (.ref 10), some (.int x1), some (.int x2), some (.int x3), some (.int x4), none]) (st' := [.ref 10]) (fun _ => rfl) ?_
    refine t_gr (rfl : mfetch 142 7 = some (7, .getfield 7, 3, 5, 0, 0)) rfl rfl ?_
    refine mEnds.stp 1 (pc' := 11) (l' := [some (.ref 10), some (.int x1), some (.int x2), some (.int x3), some (.int x4), none]) (st' := [.int x2, .ref 11]) (fun _ => rfl) ?_
    obtain ⟨j1, hj1, hf⟩ := ob hf
    refine t_ia (rfl : mfetch 142 11 = some (11, .iaload, 1, 0, 0, 0)) rfl rfl hj1 ?_
    refine mEnds.stp 4 (pc' := 18) (l' := [some (.ref 10), some (.int x1), some (.int x2), some (.int x3), some (.int x4), some (.int ((s 11 j1) + x4))]) (st' := [.ref 10]) (fun _ => rfl) ?_
    refine t_gr (rfl : mfetch 142 18 = some (18, .getfield 7, 3, 5, 0, 0)) rfl rfl ?_
    refine mEnds.stp 4 (pc' := 26) (l' := [some (.ref 10), some (.int x1), some (.int x2), some (.int x3), some (.int x4), some (.int ((s 11 j1) + x4))]) (st' := [.int (x3 - x4), .int x2, .ref 11]) (fun _ => rfl) ?_
    obtain ⟨j2, hj2, hf⟩ := ob hf
    obtain ⟨s1, hs1, hf⟩ := ob hf
    refine t_is (rfl : mfetch 142 26 = some (26, .iastore, 1, 0, 0, 0)) rfl rfl hj2 hs1 ?_
    refine mEnds.stp 1 (pc' := 29) (l' := [some (.ref 10), some (.int x1), some (.int x2), some (.int x3), some (.int x4), some (.int ((s 11 j1) + x4))]) (st' := [.int ((s 11 j1) + x4)]) (fun _ => rfl) ?_
    exact mEnds.rti (Option.some.inj hf) (fun _ => rfl)
end Q31c
section Q31d
def M_alter_48 (x1 : Int32) (x2 : Int32) (x3 : Int32) (y0 : Int32) (s : sg) : Option (Int32 × sg) :=
  (M_puts y0 (((nI 6) * x2) + x1) x3 (nI 0) s).bind fun v1 =>
  some (v1.1, v1.2)
set_option maxRecDepth 100000 in
theorem ok_M_alter_48 {x1 : Int32} {x2 : Int32} {x3 : Int32} {y0 : Int32} {s : sg} {rv : (Int32 × sg)} (hf : M_alter_48 x1 x2 x3 y0 s = some rv) : mEnds [] 2 143 (48, [none, some (.int x1), some (.int x2), some (.int x3)], [.int y0, .ref 10], hp shM s, 0, 0) (some (.int rv.1), hp shM rv.2, 0, 0) := by
  unfold M_alter_48 at hf
  refine mEnds.stp 7 (pc' := 56) (l' := [none, some (.int x1), some (.int x2), some (.int x3)]) (st' := [.int (nI 0), .int x3, .int (((nI 6) * x2) + x1), .int y0, .ref 10]) (fun _ => rfl) ?_
  obtain ⟨v1, hv1, hf⟩ := ob hf
  refine t_cv (as := [.int y0, .int (((nI 6) * x2) + x1), .int x3, .int (nI 0)]) (st := []) (rfl : mfetch 143 56 = some (56, .invokevirtual 185, 3, 142, 0, 0)) rfl rfl rfl rfl rfl ((ok_M_puts hv1).deep 1) ?_
  exact mEnds.rti (Option.some.inj hf) (fun _ => rfl)
def M_alter_47 (x1 : Int32) (x2 : Int32) (x3 : Int32) (s : sg) : Option (Int32 × sg) :=
  M_alter_48 x1 x2 x3 (nI 0) s
set_option maxRecDepth 100000 in
theorem ok_M_alter_47 {x1 : Int32} {x2 : Int32} {x3 : Int32} {s : sg} {rv : (Int32 × sg)} (hf : M_alter_47 x1 x2 x3 s = some rv) : mEnds [] 2 143 (47, [none, some (.int x1), some (.int x2), some (.int x3)], [.ref 10], hp shM s, 0, 0) (some (.int rv.1), hp shM rv.2, 0, 0) := by
  unfold M_alter_47 at hf
  refine mEnds.stp 1 (pc' := 48) (l' := [none, some (.int x1), some (.int x2), some (.int x3)]) (st' := [.int (nI 0), .ref 10]) (fun _ => rfl) ?_
  refine mEnds.cut (l := [none, some (.int x1), some (.int x2), some (.int x3)]) ⟨rfl, ⟨rfl, ⟨rfl, trivial⟩⟩⟩ ?_
  exact ok_M_alter_48 hf
def M_alter_37 (x1 : Int32) (x2 : Int32) (x3 : Int32) (y0 : Int64) (y1 : Int64) (y2 : Int64) (s : sg) : Option (Int32 × sg) :=
  (M_in y2 y1 y0 s).bind fun v1 =>
  if v1 = 0 then
    M_alter_47 x1 x2 x3 s
  else
    M_alter_48 x1 x2 x3 (nI 1) s
set_option maxRecDepth 100000 in
theorem ok_M_alter_37 {x1 : Int32} {x2 : Int32} {x3 : Int32} {y0 : Int64} {y1 : Int64} {y2 : Int64} {s : sg} {rv : (Int32 × sg)} (hf : M_alter_37 x1 x2 x3 y0 y1 y2 s = some rv) : mEnds [] 2 143 (37, [none, some (.int x1), some (.int x2), some (.int x3)], [.long y0, .long y1, .long y2, .ref 10], hp shM s, 0, 0) (some (.int rv.1), hp shM rv.2, 0, 0) := by
  unfold M_alter_37 at hf
  obtain ⟨v1, hv1, hf⟩ := ob hf
  refine t_cs (as := [.long y2, .long y1, .long y0]) (st := [.ref 10]) (Or.inl rfl) (rfl : mfetch 143 37 = some (37, .invokestatic 49, 3, 111, 0, 0)) rfl rfl rfl ((ok_M_in hv1).deep 1) ?_
  by_cases hc1 : v1 = 0
  · rw [if_pos hc1] at hf
    refine t_jT (t := 47) (rfl : mfetch 143 40 = some (40, .ifCond .eq 7, 3, 0, 0, 0)) rfl (k_eq hc1) ?_
    refine mEnds.cut (l := [none, some (.int x1), some (.int x2), some (.int x3)]) ⟨rfl, ⟨rfl, ⟨rfl, trivial⟩⟩⟩ ?_
    exact ok_M_alter_47 hf
  · rw [if_neg hc1] at hf
    refine t_jF (rfl : mfetch 143 40 = some (40, .ifCond .eq 7, 3, 0, 0, 0)) (k_eq' hc1) ?_
    refine mEnds.stp 2 (pc' := 48) (l' := [none, some (.int x1), some (.int x2), some (.int x3)]) (st' := [.int (nI 1), .ref 10]) (fun _ => rfl) ?_
    refine mEnds.cut (l := [none, some (.int x1), some (.int x2), some (.int x3)]) ⟨rfl, ⟨rfl, ⟨rfl, trivial⟩⟩⟩ ?_
    exact ok_M_alter_48 hf
def M_alter (x1 : Int32) (x2 : Int32) (x3 : Int32) (s : sg) : Option (Int32 × sg) :=
  (M_isRoom x1 s).bind fun v1 =>
  if v1 = 0 then
    M_alter_47 x1 x2 x3 s
  else
    (M_in x2.toInt64 (0 : Int64) (2 : Int64) s).bind fun v2 =>
    if v2 = 0 then
      M_alter_47 x1 x2 x3 s
    else
      if x2 = 0 then
        M_alter_37 x1 x2 x3 (99 : Int64) (0 : Int64) x3.toInt64 s
      else
        M_alter_37 x1 x2 x3 (9 : Int64) (0 : Int64) x3.toInt64 s
set_option maxRecDepth 100000 in
theorem ok_M_alter {x1 : Int32} {x2 : Int32} {x3 : Int32} {s : sg} {rv : (Int32 × sg)} (hf : M_alter x1 x2 x3 s = some rv) : mEnds [] 2 143 (0, [some (.ref 10), some (.int x1), some (.int x2), some (.int x3)], [], hp shM s, 0, 0) (some (.int rv.1), hp shM rv.2, 0, 0) := by
  unfold M_alter at hf
  refine mEnds.stp 3 (pc' := 3) (l' := [some (.ref 10), some (.int x1), some (.int x2), some (.int x3)]) (st' := [.int x1, .ref 10, .ref 10]) (fun _ => rfl) ?_
  obtain ⟨v1, hv1, hf⟩ := ob hf
  refine t_cv (as := [.int x1]) (st := [.ref 10]) (rfl : mfetch 143 3 = some (3, .invokevirtual 167, 3, 126, 0, 0)) rfl rfl rfl rfl rfl (ok_M_isRoom hv1) ?_
  by_cases hc1 : v1 = 0
  · rw [if_pos hc1] at hf
    refine t_jT (t := 47) (rfl : mfetch 143 6 = some (6, .ifCond .eq 41, 3, 0, 0, 0)) rfl (k_eq hc1) ?_
    refine mEnds.cut (l := [none, some (.int x1), some (.int x2), some (.int x3)]) ⟨rfl, ⟨rfl, ⟨rfl, trivial⟩⟩⟩ ?_
    exact ok_M_alter_47 hf
  · rw [if_neg hc1] at hf
    refine t_jF (rfl : mfetch 143 6 = some (6, .ifCond .eq 41, 3, 0, 0, 0)) (k_eq' hc1) ?_
    refine mEnds.stp 4 (pc' := 15) (l' := [some (.ref 10), some (.int x1), some (.int x2), some (.int x3)]) (st' := [.long (2 : Int64), .long (0 : Int64), .long x2.toInt64, .ref 10]) (fun _ => rfl) ?_
    obtain ⟨v2, hv2, hf⟩ := ob hf
    refine t_cs (as := [.long x2.toInt64, .long (0 : Int64), .long (2 : Int64)]) (st := [.ref 10]) (Or.inl rfl) (rfl : mfetch 143 15 = some (15, .invokestatic 49, 3, 111, 0, 0)) rfl rfl rfl ((ok_M_in hv2).deep 1) ?_
    by_cases hc2 : v2 = 0
    · rw [if_pos hc2] at hf
      refine t_jT (t := 47) (rfl : mfetch 143 18 = some (18, .ifCond .eq 29, 3, 0, 0, 0)) rfl (k_eq hc2) ?_
      refine mEnds.cut (l := [none, some (.int x1), some (.int x2), some (.int x3)]) ⟨rfl, ⟨rfl, ⟨rfl, trivial⟩⟩⟩ ?_
      exact ok_M_alter_47 hf
    · rw [if_neg hc2] at hf
      refine t_jF (rfl : mfetch 143 18 = some (18, .ifCond .eq 29, 3, 0, 0, 0)) (k_eq' hc2) ?_
      refine mEnds.stp 4 (pc' := 25) (l' := [some (.ref 10), some (.int x1), some (.int x2), some (.int x3)]) (st' := [.int x2, .long (0 : Int64), .long x3.toInt64, .ref 10]) (fun _ => rfl) ?_
      by_cases hc3 : x2 = 0
      · rw [if_pos hc3] at hf
        refine t_jF (rfl : mfetch 143 25 = some (25, .ifCond .ne 9, 3, 0, 0, 0)) (k_ne' hc3) ?_
        refine mEnds.stp 2 (pc' := 37) (l' := [some (.ref 10), some (.int x1), some (.int x2), some (.int x3)]) (st' := [.long (99 : Int64), .long (0 : Int64), .long x3.toInt64, .ref 10]) (fun _ => rfl) ?_
        refine mEnds.cut (l := [none, some (.int x1), some (.int x2), some (.int x3)]) ⟨rfl, ⟨rfl, ⟨rfl, trivial⟩⟩⟩ ?_
        exact ok_M_alter_37 hf
      · rw [if_neg hc3] at hf
        refine t_jT (t := 34) (rfl : mfetch 143 25 = some (25, .ifCond .ne 9, 3, 0, 0, 0)) rfl (k_ne hc3) ?_
        refine mEnds.stp 1 (pc' := 37) (l' := [some (.ref 10), some (.int x1), some (.int x2), some (.int x3)]) (st' := [.long (9 : Int64), .long (0 : Int64), .long x3.toInt64, .ref 10]) (fun _ => rfl) ?_
        refine mEnds.cut (l := [none, some (.int x1), some (.int x2), some (.int x3)]) ⟨rfl, ⟨rfl, ⟨rfl, trivial⟩⟩⟩ ?_
        exact ok_M_alter_37 hf
def M_fit_58 (x1 : Int32) (x2 : Int32) (x3 : Int32) (y0 : Int32) (s : sg) : Option (Int32 × sg) :=
  (midx ((nI 18) + x1) 312).bind fun j1 =>
  (some (up s 11 j1 (x2 + (nI 1)))).bind fun s1 =>
  (midx ((nI 24) + x1) 312).bind fun j2 =>
  (some (up s1 11 j2 x3)).bind fun s2 =>
  some (y0, s2)
set_option maxRecDepth 100000 in
theorem ok_M_fit_58 {x1 : Int32} {x2 : Int32} {x3 : Int32} {y0 : Int32} {s : sg} {rv : (Int32 × sg)} (hf : M_fit_58 x1 x2 x3 y0 s = some rv) : mEnds [] 2 144 (58, [some (.ref 10), some (.int x1), some (.int x2), some (.int x3), none], [.int y0], hp shM s, 0, 0) (some (.int rv.1), hp shM rv.2, 0, 0) := by
  unfold M_fit_58 at hf
  refine mEnds.stp 2 (pc' := 61) (l' := [some (.ref 10), some (.int x1), some (.int x2), some (.int x3), some (.int y0)]) (st' := [.ref 10]) (fun _ => rfl) ?_
  refine t_gr (rfl : mfetch 144 61 = some (61, .getfield 7, 3, 5, 0, 0)) rfl rfl ?_
  refine mEnds.stp 6 (pc' := 71) (l' := [some (.ref 10), some (.int x1), some (.int x2), some (.int x3), some (.int y0)]) (st' := [.int (x2 + (nI 1)), .int ((nI 18) + x1), .ref 11]) (fun _ => rfl) ?_
  obtain ⟨j1, hj1, hf⟩ := ob hf
  obtain ⟨s1, hs1, hf⟩ := ob hf
  refine t_is (rfl : mfetch 144 71 = some (71, .iastore, 1, 0, 0, 0)) rfl rfl hj1 hs1 ?_
  refine mEnds.stp 1 (pc' := 73) (l' := [some (.ref 10), some (.int x1), some (.int x2), some (.int x3), some (.int y0)]) (st' := [.ref 10]) (fun _ => rfl) ?_
  refine t_gr (rfl : mfetch 144 73 = some (73, .getfield 7, 3, 5, 0, 0)) rfl rfl ?_
  refine mEnds.stp 4 (pc' := 81) (l' := [some (.ref 10), some (.int x1), some (.int x2), some (.int x3), some (.int y0)]) (st' := [.int x3, .int ((nI 24) + x1), .ref 11]) (fun _ => rfl) ?_
  obtain ⟨j2, hj2, hf⟩ := ob hf
  obtain ⟨s2, hs2, hf⟩ := ob hf
  refine t_is (rfl : mfetch 144 81 = some (81, .iastore, 1, 0, 0, 0)) rfl rfl hj2 hs2 ?_
  refine mEnds.stp 1 (pc' := 84) (l' := [some (.ref 10), some (.int x1), some (.int x2), some (.int x3), some (.int y0)]) (st' := [.int y0]) (fun _ => rfl) ?_
  exact mEnds.rti (Option.some.inj hf) (fun _ => rfl)
def M_fit (x1 : Int32) (x2 : Int32) (x3 : Int32) (s : sg) : Option (Int32 × sg) :=
  (M_isRoom x1 s).bind fun v1 =>
  if v1 = 0 then
    some ((-1), s)
  else
    (M_in x2.toInt64 (0 : Int64) (3 : Int64) s).bind fun v2 =>
    if v2 = 0 then
      some ((-1), s)
    else
      (M_in x3.toInt64 (0 : Int64) (99 : Int64) s).bind fun v3 =>
      if v3 = 0 then
        some ((-1), s)
      else
        (M_hasTongue x1 s).bind fun v4 =>
        if v4 = 0 then
          M_fit_58 x1 x2 x3 (nI 9) s
        else
          (midx ((nI 18) + x1) 312).bind fun j1 =>
          M_fit_58 x1 x2 x3 ((s 11 j1) - (nI 1)) s
set_option maxRecDepth 100000 in
theorem ok_M_fit {x1 : Int32} {x2 : Int32} {x3 : Int32} {s : sg} {rv : (Int32 × sg)} (hf : M_fit x1 x2 x3 s = some rv) : mEnds [] 2 144 (0, [some (.ref 10), some (.int x1), some (.int x2), some (.int x3), none], [], hp shM s, 0, 0) (some (.int rv.1), hp shM rv.2, 0, 0) := by
  unfold M_fit at hf
  refine mEnds.stp 2 (pc' := 2) (l' := [some (.ref 10), some (.int x1), some (.int x2), some (.int x3), none]) (st' := [.int x1, .ref 10]) (fun _ => rfl) ?_
  obtain ⟨v1, hv1, hf⟩ := ob hf
  refine t_cv (as := [.int x1]) (st := []) (rfl : mfetch 144 2 = some (2, .invokevirtual 167, 3, 126, 0, 0)) rfl rfl rfl rfl rfl (ok_M_isRoom hv1) ?_
  by_cases hc1 : v1 = 0
  · rw [if_pos hc1] at hf
    refine t_jT (t := 32) (rfl : mfetch 144 5 = some (5, .ifCond .eq 27, 3, 0, 0, 0)) rfl (k_eq hc1) ?_
    refine mEnds.stp 1 (pc' := 33) (l' := [some (.ref 10), some (.int x1), some (.int x2), some (.int x3), none]) (st' := [.int (-1)]) (fun _ => rfl) ?_
    exact mEnds.rti (Option.some.inj hf) (fun _ => rfl)
  · rw [if_neg hc1] at hf
    refine t_jF (rfl : mfetch 144 5 = some (5, .ifCond .eq 27, 3, 0, 0, 0)) (k_eq' hc1) ?_
    refine mEnds.stp 4 (pc' := 14) (l' := [some (.ref 10), some (.int x1), some (.int x2), some (.int x3), none]) (st' := [.long (3 : Int64), .long (0 : Int64), .long x2.toInt64]) (fun _ => rfl) ?_
    obtain ⟨v2, hv2, hf⟩ := ob hf
    refine t_cs (as := [.long x2.toInt64, .long (0 : Int64), .long (3 : Int64)]) (st := []) (Or.inl rfl) (rfl : mfetch 144 14 = some (14, .invokestatic 49, 3, 111, 0, 0)) rfl rfl rfl ((ok_M_in hv2).deep 1) ?_
    by_cases hc2 : v2 = 0
    · rw [if_pos hc2] at hf
      refine t_jT (t := 32) (rfl : mfetch 144 17 = some (17, .ifCond .eq 15, 3, 0, 0, 0)) rfl (k_eq hc2) ?_
      refine mEnds.stp 1 (pc' := 33) (l' := [some (.ref 10), some (.int x1), some (.int x2), some (.int x3), none]) (st' := [.int (-1)]) (fun _ => rfl) ?_
      exact mEnds.rti (Option.some.inj hf) (fun _ => rfl)
    · rw [if_neg hc2] at hf
      refine t_jF (rfl : mfetch 144 17 = some (17, .ifCond .eq 15, 3, 0, 0, 0)) (k_eq' hc2) ?_
      refine mEnds.stp 4 (pc' := 26) (l' := [some (.ref 10), some (.int x1), some (.int x2), some (.int x3), none]) (st' := [.long (99 : Int64), .long (0 : Int64), .long x3.toInt64]) (fun _ => rfl) ?_
      obtain ⟨v3, hv3, hf⟩ := ob hf
      refine t_cs (as := [.long x3.toInt64, .long (0 : Int64), .long (99 : Int64)]) (st := []) (Or.inl rfl) (rfl : mfetch 144 26 = some (26, .invokestatic 49, 3, 111, 0, 0)) rfl rfl rfl ((ok_M_in hv3).deep 1) ?_
      by_cases hc3 : v3 = 0
      · rw [if_pos hc3] at hf
        refine t_jF (rfl : mfetch 144 29 = some (29, .ifCond .ne 5, 3, 0, 0, 0)) (k_ne' hc3) ?_
        refine mEnds.stp 1 (pc' := 33) (l' := [some (.ref 10), some (.int x1), some (.int x2), some (.int x3), none]) (st' := [.int (-1)]) (fun _ => rfl) ?_
        exact mEnds.rti (Option.some.inj hf) (fun _ => rfl)
      · rw [if_neg hc3] at hf
        refine t_jT (t := 34) (rfl : mfetch 144 29 = some (29, .ifCond .ne 5, 3, 0, 0, 0)) rfl (k_ne hc3) ?_
        refine mEnds.stp 2 (pc' := 36) (l' := [some (.ref 10), some (.int x1), some (.int x2), some (.int x3), none]) (st' := [.int x1, .ref 10]) (fun _ => rfl) ?_
        obtain ⟨v4, hv4, hf⟩ := ob hf
        refine t_cv (as := [.int x1]) (st := []) (rfl : mfetch 144 36 = some (36, .invokevirtual 173, 3, 128, 0, 0)) rfl rfl rfl rfl rfl ((ok_M_hasTongue hv4).deep 1) ?_
        by_cases hc4 : v4 = 0
        · rw [if_pos hc4] at hf
          refine t_jT (t := 56) (rfl : mfetch 144 39 = some (39, .ifCond .eq 17, 3, 0, 0, 0)) rfl (k_eq hc4) ?_
          refine mEnds.stp 1 (pc' := 58) (l' := [some (.ref 10), some (.int x1), some (.int x2), some (.int x3), none]) (st' := [.int (nI 9)]) (fun _ => rfl) ?_
          refine mEnds.cut (l := [some (.ref 10), some (.int x1), some (.int x2), some (.int x3), none]) ⟨rfl, ⟨rfl, ⟨rfl, ⟨rfl, trivial⟩⟩⟩⟩ ?_
          exact ok_M_fit_58 hf
        · rw [if_neg hc4] at hf
          refine t_jF (rfl : mfetch 144 39 = some (39, .ifCond .eq 17, 3, 0, 0, 0)) (k_eq' hc4) ?_
          refine mEnds.stp 1 (pc' := 43) (l' := [some (.ref 10), some (.int x1), some (.int x2), some (.int x3), none]) (st' := [.ref 10]) (fun _ => rfl) ?_
          refine t_gr (rfl : mfetch 144 43 = some (43, .getfield 7, 3, 5, 0, 0)) rfl rfl ?_
          refine mEnds.stp 3 (pc' := 50) (l' := [some (.ref 10), some (.int x1), some (.int x2), some (.int x3), none]) (st' := [.int ((nI 18) + x1), .ref 11]) (fun _ => rfl) ?_
          obtain ⟨j1, hj1, hf⟩ := ob hf
          refine t_ia (rfl : mfetch 144 50 = some (50, .iaload, 1, 0, 0, 0)) rfl rfl hj1 ?_
          refine mEnds.stp 3 (pc' := 58) (l' := [some (.ref 10), some (.int x1), some (.int x2), some (.int x3), none]) (st' := [.int ((s 11 j1) - (nI 1))]) (fun _ => rfl) ?_
          refine mEnds.cut (l := [some (.ref 10), some (.int x1), some (.int x2), some (.int x3), none]) ⟨rfl, ⟨rfl, ⟨rfl, ⟨rfl, trivial⟩⟩⟩⟩ ?_
          exact ok_M_fit_58 hf
def M_stripsOn (x1 : Int32) (x2 : Int32) (s : sg) : Option sg :=
  (midx ((x1 + (nI 18)) + x2) 312).bind fun j1 =>
  (some (up s 11 j1 (nI 0))).bind fun s1 =>
  (midx ((x1 + (nI 24)) + x2) 312).bind fun j2 =>
  (some (up s1 11 j2 (nI 0))).bind fun s2 =>
  (midx ((x1 + (nI 30)) + x2) 312).bind fun j3 =>
  (some (up s2 11 j3 (nI 0))).bind fun s3 =>
  some s3
set_option maxRecDepth 100000 in
theorem ok_M_stripsOn {x1 : Int32} {x2 : Int32} {s : sg} {rv : sg} (hf : M_stripsOn x1 x2 s = some rv) : mEnds [] 0 145 (0, [some (.ref 10), some (.int x1), some (.int x2)], [], hp shM s, 0, 0) (none, hp shM rv, 0, 0) := by
  unfold M_stripsOn at hf
  refine mEnds.stp 1 (pc' := 1) (l' := [some (.ref 10), some (.int x1), some (.int x2)]) (st' := [.ref 10]) (fun _ => rfl) ?_
  refine t_gr (rfl : mfetch 145 1 = some (1, .getfield 7, 3, 5, 0, 0)) rfl rfl ?_
  refine mEnds.stp 6 (pc' := 11) (l' := [some (.ref 10), some (.int x1), some (.int x2)]) (st' := [.int (nI 0), .int ((x1 + (nI 18)) + x2), .ref 11]) (fun _ => rfl) ?_
  obtain ⟨j1, hj1, hf⟩ := ob hf
  obtain ⟨s1, hs1, hf⟩ := ob hf
  refine t_is (rfl : mfetch 145 11 = some (11, .iastore, 1, 0, 0, 0)) rfl rfl hj1 hs1 ?_
  refine mEnds.stp 1 (pc' := 13) (l' := [some (.ref 10), some (.int x1), some (.int x2)]) (st' := [.ref 10]) (fun _ => rfl) ?_
  refine t_gr (rfl : mfetch 145 13 = some (13, .getfield 7, 3, 5, 0, 0)) rfl rfl ?_
  refine mEnds.stp 6 (pc' := 23) (l' := [some (.ref 10), some (.int x1), some (.int x2)]) (st' := [.int (nI 0), .int ((x1 + (nI 24)) + x2), .ref 11]) (fun _ => rfl) ?_
  obtain ⟨j2, hj2, hf⟩ := ob hf
  obtain ⟨s2, hs2, hf⟩ := ob hf
  refine t_is (rfl : mfetch 145 23 = some (23, .iastore, 1, 0, 0, 0)) rfl rfl hj2 hs2 ?_
  refine mEnds.stp 1 (pc' := 25) (l' := [some (.ref 10), some (.int x1), some (.int x2)]) (st' := [.ref 10]) (fun _ => rfl) ?_
  refine t_gr (rfl : mfetch 145 25 = some (25, .getfield 7, 3, 5, 0, 0)) rfl rfl ?_
  refine mEnds.stp 6 (pc' := 35) (l' := [some (.ref 10), some (.int x1), some (.int x2)]) (st' := [.int (nI 0), .int ((x1 + (nI 30)) + x2), .ref 11]) (fun _ => rfl) ?_
  obtain ⟨j3, hj3, hf⟩ := ob hf
  obtain ⟨s3, hs3, hf⟩ := ob hf
  refine t_is (rfl : mfetch 145 35 = some (35, .iastore, 1, 0, 0, 0)) rfl rfl hj3 hs3 ?_
  cases hf; exact mEnds.rt (fun _ => rfl)
def M_strip (x1 : Int32) (s : sg) : Option (Int32 × sg) :=
  (M_isRoom x1 s).bind fun v1 =>
  if v1 = 0 then
    some ((-1), s)
  else
    (M_hasTongue x1 s).bind fun v2 =>
    if v2 = 0 then
      some ((-2), s)
    else
      (midx ((nI 18) + x1) 312).bind fun j1 =>
      (M_stripsOn (nI 0) x1 s).bind fun s1 =>
      some ((s 11 j1) - (nI 1), s1)
set_option maxRecDepth 100000 in
theorem ok_M_strip {x1 : Int32} {s : sg} {rv : (Int32 × sg)} (hf : M_strip x1 s = some rv) : mEnds [] 2 146 (0, [some (.ref 10), some (.int x1), none], [], hp shM s, 0, 0) (some (.int rv.1), hp shM rv.2, 0, 0) := by
  unfold M_strip at hf
  refine mEnds.stp 2 (pc' := 2) (l' := [some (.ref 10), some (.int x1), none]) (st' := [.int x1, .ref 10]) (fun _ => rfl) ?_
  obtain ⟨v1, hv1, hf⟩ := ob hf
  refine t_cv (as := [.int x1]) (st := []) (rfl : mfetch 146 2 = some (2, .invokevirtual 167, 3, 126, 0, 0)) rfl rfl rfl rfl rfl (ok_M_isRoom hv1) ?_
  by_cases hc1 : v1 = 0
  · rw [if_pos hc1] at hf
    refine t_jF (rfl : mfetch 146 5 = some (5, .ifCond .ne 5, 3, 0, 0, 0)) (k_ne' hc1) ?_
    refine mEnds.stp 1 (pc' := 9) (l' := [some (.ref 10), some (.int x1), none]) (st' := [.int (-1)]) (fun _ => rfl) ?_
    exact mEnds.rti (Option.some.inj hf) (fun _ => rfl)
  · rw [if_neg hc1] at hf
    refine t_jT (t := 10) (rfl : mfetch 146 5 = some (5, .ifCond .ne 5, 3, 0, 0, 0)) rfl (k_ne hc1) ?_
    refine mEnds.stp 2 (pc' := 12) (l' := [some (.ref 10), some (.int x1), none]) (st' := [.int x1, .ref 10]) (fun _ => rfl) ?_
    obtain ⟨v2, hv2, hf⟩ := ob hf
    refine t_cv (as := [.int x1]) (st := []) (rfl : mfetch 146 12 = some (12, .invokevirtual 173, 3, 128, 0, 0)) rfl rfl rfl rfl rfl ((ok_M_hasTongue hv2).deep 1) ?_
    by_cases hc2 : v2 = 0
    · rw [if_pos hc2] at hf
      refine t_jF (rfl : mfetch 146 15 = some (15, .ifCond .ne 6, 3, 0, 0, 0)) (k_ne' hc2) ?_
      refine mEnds.stp 1 (pc' := 20) (l' := [some (.ref 10), some (.int x1), none]) (st' := [.int (-2)]) (fun _ => rfl) ?_
      exact mEnds.rti (Option.some.inj hf) (fun _ => rfl)
    · rw [if_neg hc2] at hf
      refine t_jT (t := 21) (rfl : mfetch 146 15 = some (15, .ifCond .ne 6, 3, 0, 0, 0)) rfl (k_ne hc2) ?_
      refine mEnds.stp 1 (pc' := 22) (l' := [some (.ref 10), some (.int x1), none]) (st' := [.ref 10]) (fun _ => rfl) ?_
      refine t_gr (rfl : mfetch 146 22 = some (22, .getfield 7, 3, 5, 0, 0)) rfl rfl ?_
      refine mEnds.stp 3 (pc' := 29) (l' := [some (.ref 10), some (.int x1), none]) (st' := [.int ((nI 18) + x1), .ref 11]) (fun _ => rfl) ?_
      obtain ⟨j1, hj1, hf⟩ := ob hf
      refine t_ia (rfl : mfetch 146 29 = some (29, .iaload, 1, 0, 0, 0)) rfl rfl hj1 ?_
      refine mEnds.stp 6 (pc' := 36) (l' := [some (.ref 10), some (.int x1), some (.int ((s 11 j1) - (nI 1)))]) (st' := [.int x1, .int (nI 0), .ref 10]) (fun _ => rfl) ?_
      obtain ⟨s1, hs1, hf⟩ := ob hf
      refine t_cv (as := [.int (nI 0), .int x1]) (st := []) (rfl : mfetch 146 36 = some (36, .invokevirtual 191, 3, 145, 0, 0)) rfl rfl rfl rfl rfl ((ok_M_stripsOn hs1).deep 1) ?_
      refine mEnds.stp 1 (pc' := 40) (l' := [some (.ref 10), some (.int x1), some (.int ((s 11 j1) - (nI 1)))]) (st' := [.int ((s 11 j1) - (nI 1))]) (fun _ => rfl) ?_
      exact mEnds.rti (Option.some.inj hf) (fun _ => rfl)
def M_marks (x1 : Int32) (x2 : Int32) (s : sg) : Option (Int32 × sg) :=
  (M_isRoom x1 s).bind fun v1 =>
  if v1 = 0 then
    some ((-1), s)
  else
    (M_in x2.toInt64 (0 : Int64) (99 : Int64) s).bind fun v2 =>
    if v2 = 0 then
      some ((-1), s)
    else
      (M_hasTongue x1 s).bind fun v3 =>
      if v3 = 0 then
        some ((-2), s)
      else
        (M_puts (nI 1) ((nI 24) + x1) x2 (nI 0) s).bind fun v4 =>
        some (v4.1, v4.2)
set_option maxRecDepth 100000 in
theorem ok_M_marks {x1 : Int32} {x2 : Int32} {s : sg} {rv : (Int32 × sg)} (hf : M_marks x1 x2 s = some rv) : mEnds [] 2 147 (0, [some (.ref 10), some (.int x1), some (.int x2)], [], hp shM s, 0, 0) (some (.int rv.1), hp shM rv.2, 0, 0) := by
  unfold M_marks at hf
  refine mEnds.stp 2 (pc' := 2) (l' := [some (.ref 10), some (.int x1), some (.int x2)]) (st' := [.int x1, .ref 10]) (fun _ => rfl) ?_
  obtain ⟨v1, hv1, hf⟩ := ob hf
  refine t_cv (as := [.int x1]) (st := []) (rfl : mfetch 147 2 = some (2, .invokevirtual 167, 3, 126, 0, 0)) rfl rfl rfl rfl rfl (ok_M_isRoom hv1) ?_
  by_cases hc1 : v1 = 0
  · rw [if_pos hc1] at hf
    refine t_jT (t := 20) (rfl : mfetch 147 5 = some (5, .ifCond .eq 15, 3, 0, 0, 0)) rfl (k_eq hc1) ?_
    refine mEnds.stp 1 (pc' := 21) (l' := [some (.ref 10), some (.int x1), some (.int x2)]) (st' := [.int (-1)]) (fun _ => rfl) ?_
    exact mEnds.rti (Option.some.inj hf) (fun _ => rfl)
  · rw [if_neg hc1] at hf
    refine t_jF (rfl : mfetch 147 5 = some (5, .ifCond .eq 15, 3, 0, 0, 0)) (k_eq' hc1) ?_
    refine mEnds.stp 4 (pc' := 14) (l' := [some (.ref 10), some (.int x1), some (.int x2)]) (st' := [.long (99 : Int64), .long (0 : Int64), .long x2.toInt64]) (fun _ => rfl) ?_
    obtain ⟨v2, hv2, hf⟩ := ob hf
    refine t_cs (as := [.long x2.toInt64, .long (0 : Int64), .long (99 : Int64)]) (st := []) (Or.inl rfl) (rfl : mfetch 147 14 = some (14, .invokestatic 49, 3, 111, 0, 0)) rfl rfl rfl ((ok_M_in hv2).deep 1) ?_
    by_cases hc2 : v2 = 0
    · rw [if_pos hc2] at hf
      refine t_jF (rfl : mfetch 147 17 = some (17, .ifCond .ne 5, 3, 0, 0, 0)) (k_ne' hc2) ?_
      refine mEnds.stp 1 (pc' := 21) (l' := [some (.ref 10), some (.int x1), some (.int x2)]) (st' := [.int (-1)]) (fun _ => rfl) ?_
      exact mEnds.rti (Option.some.inj hf) (fun _ => rfl)
    · rw [if_neg hc2] at hf
      refine t_jT (t := 22) (rfl : mfetch 147 17 = some (17, .ifCond .ne 5, 3, 0, 0, 0)) rfl (k_ne hc2) ?_
      refine mEnds.stp 2 (pc' := 24) (l' := [some (.ref 10), some (.int x1), some (.int x2)]) (st' := [.int x1, .ref 10]) (fun _ => rfl) ?_
      obtain ⟨v3, hv3, hf⟩ := ob hf
      refine t_cv (as := [.int x1]) (st := []) (rfl : mfetch 147 24 = some (24, .invokevirtual 173, 3, 128, 0, 0)) rfl rfl rfl rfl rfl ((ok_M_hasTongue hv3).deep 1) ?_
      by_cases hc3 : v3 = 0
      · rw [if_pos hc3] at hf
        refine t_jT (t := 44) (rfl : mfetch 147 27 = some (27, .ifCond .eq 17, 3, 0, 0, 0)) rfl (k_eq hc3) ?_
        refine mEnds.stp 1 (pc' := 46) (l' := [some (.ref 10), some (.int x1), some (.int x2)]) (st' := [.int (-2)]) (fun _ => rfl) ?_
        exact mEnds.rti (Option.some.inj hf) (fun _ => rfl)
      · rw [if_neg hc3] at hf
        refine t_jF (rfl : mfetch 147 27 = some (27, .ifCond .eq 17, 3, 0, 0, 0)) (k_eq' hc3) ?_
        refine mEnds.stp 7 (pc' := 38) (l' := [some (.ref 10), some (.int x1), some (.int x2)]) (st' := [.int (nI 0), .int x2, .int ((nI 24) + x1), .int (nI 1), .ref 10]) (fun _ => rfl) ?_
        obtain ⟨v4, hv4, hf⟩ := ob hf
        refine t_cv (as := [.int (nI 1), .int ((nI 24) + x1), .int x2, .int (nI 0)]) (st := []) (rfl : mfetch 147 38 = some (38, .invokevirtual 185, 3, 142, 0, 0)) rfl rfl rfl rfl rfl ((ok_M_puts hv4).deep 1) ?_
        refine mEnds.stp 1 (pc' := 46) (l' := [some (.ref 10), some (.int x1), some (.int x2)]) (st' := [.int v4.1]) (fun _ => rfl) ?_
        exact mEnds.rti (Option.some.inj hf) (fun _ => rfl)
def M_mark (x1 : Int32) (x2 : Int32) (s : sg) : Option (Int32 × sg) :=
  (M_marks x1 x2 s).bind fun v1 =>
  some (v1.1, v1.2)
set_option maxRecDepth 100000 in
theorem ok_M_mark {x1 : Int32} {x2 : Int32} {s : sg} {rv : (Int32 × sg)} (hf : M_mark x1 x2 s = some rv) : mEnds [] 3 148 (0, [some (.ref 10), some (.int x1), some (.int x2)], [], hp shM s, 0, 0) (some (.int rv.1), hp shM rv.2, 0, 0) := by
  unfold M_mark at hf
  refine mEnds.stp 3 (pc' := 3) (l' := [some (.ref 10), some (.int x1), some (.int x2)]) (st' := [.int x2, .int x1, .ref 10]) (fun _ => rfl) ?_
  obtain ⟨v1, hv1, hf⟩ := ob hf
  refine t_cv (as := [.int x1, .int x2]) (st := []) (rfl : mfetch 148 3 = some (3, .invokevirtual 195, 3, 147, 0, 0)) rfl rfl rfl rfl rfl (ok_M_marks hv1) ?_
  exact mEnds.rti (Option.some.inj hf) (fun _ => rfl)
def M_lag_26 (x1 : Int32) (x2 : Int32) (y0 : Int32) (s : sg) : Option (Int32 × sg) :=
  (M_puts y0 ((nI 36) + x1) x2 (nI 2) s).bind fun v1 =>
  some (v1.1, v1.2)
set_option maxRecDepth 100000 in
theorem ok_M_lag_26 {x1 : Int32} {x2 : Int32} {y0 : Int32} {s : sg} {rv : (Int32 × sg)} (hf : M_lag_26 x1 x2 y0 s = some rv) : mEnds [] 2 149 (26, [none, some (.int x1), some (.int x2)], [.int y0, .ref 10], hp shM s, 0, 0) (some (.int rv.1), hp shM rv.2, 0, 0) := by
  unfold M_lag_26 at hf
  refine mEnds.stp 5 (pc' := 32) (l' := [none, some (.int x1), some (.int x2)]) (st' := [.int (nI 2), .int x2, .int ((nI 36) + x1), .int y0, .ref 10]) (fun _ => rfl) ?_
  obtain ⟨v1, hv1, hf⟩ := ob hf
  refine t_cv (as := [.int y0, .int ((nI 36) + x1), .int x2, .int (nI 2)]) (st := []) (rfl : mfetch 149 32 = some (32, .invokevirtual 185, 3, 142, 0, 0)) rfl rfl rfl rfl rfl ((ok_M_puts hv1).deep 1) ?_
  exact mEnds.rti (Option.some.inj hf) (fun _ => rfl)
def M_lag_25 (x1 : Int32) (x2 : Int32) (s : sg) : Option (Int32 × sg) :=
  M_lag_26 x1 x2 (nI 0) s
set_option maxRecDepth 100000 in
theorem ok_M_lag_25 {x1 : Int32} {x2 : Int32} {s : sg} {rv : (Int32 × sg)} (hf : M_lag_25 x1 x2 s = some rv) : mEnds [] 2 149 (25, [none, some (.int x1), some (.int x2)], [.ref 10], hp shM s, 0, 0) (some (.int rv.1), hp shM rv.2, 0, 0) := by
  unfold M_lag_25 at hf
  refine mEnds.stp 1 (pc' := 26) (l' := [none, some (.int x1), some (.int x2)]) (st' := [.int (nI 0), .ref 10]) (fun _ => rfl) ?_
  refine mEnds.cut (l := [none, some (.int x1), some (.int x2)]) ⟨rfl, ⟨rfl, trivial⟩⟩ ?_
  exact ok_M_lag_26 hf
def M_lag (x1 : Int32) (x2 : Int32) (s : sg) : Option (Int32 × sg) :=
  (M_isWall x1 s).bind fun v1 =>
  if v1 = 0 then
    M_lag_25 x1 x2 s
  else
    (M_in x2.toInt64 (0 : Int64) (9 : Int64) s).bind fun v2 =>
    if v2 = 0 then
      M_lag_25 x1 x2 s
    else
      M_lag_26 x1 x2 (nI 1) s
set_option maxRecDepth 100000 in
theorem ok_M_lag {x1 : Int32} {x2 : Int32} {s : sg} {rv : (Int32 × sg)} (hf : M_lag x1 x2 s = some rv) : mEnds [] 2 149 (0, [some (.ref 10), some (.int x1), some (.int x2)], [], hp shM s, 0, 0) (some (.int rv.1), hp shM rv.2, 0, 0) := by
  unfold M_lag at hf
  refine mEnds.stp 3 (pc' := 3) (l' := [some (.ref 10), some (.int x1), some (.int x2)]) (st' := [.int x1, .ref 10, .ref 10]) (fun _ => rfl) ?_
  obtain ⟨v1, hv1, hf⟩ := ob hf
  refine t_cv (as := [.int x1]) (st := [.ref 10]) (rfl : mfetch 149 3 = some (3, .invokevirtual 176, 3, 127, 0, 0)) rfl rfl rfl rfl rfl (ok_M_isWall hv1) ?_
  by_cases hc1 : v1 = 0
  · rw [if_pos hc1] at hf
    refine t_jT (t := 25) (rfl : mfetch 149 6 = some (6, .ifCond .eq 19, 3, 0, 0, 0)) rfl (k_eq hc1) ?_
    refine mEnds.cut (l := [none, some (.int x1), some (.int x2)]) ⟨rfl, ⟨rfl, trivial⟩⟩ ?_
    exact ok_M_lag_25 hf
  · rw [if_neg hc1] at hf
    refine t_jF (rfl : mfetch 149 6 = some (6, .ifCond .eq 19, 3, 0, 0, 0)) (k_eq' hc1) ?_
    refine mEnds.stp 4 (pc' := 15) (l' := [some (.ref 10), some (.int x1), some (.int x2)]) (st' := [.long (9 : Int64), .long (0 : Int64), .long x2.toInt64, .ref 10]) (fun _ => rfl) ?_
    obtain ⟨v2, hv2, hf⟩ := ob hf
    refine t_cs (as := [.long x2.toInt64, .long (0 : Int64), .long (9 : Int64)]) (st := [.ref 10]) (Or.inl rfl) (rfl : mfetch 149 15 = some (15, .invokestatic 49, 3, 111, 0, 0)) rfl rfl rfl ((ok_M_in hv2).deep 1) ?_
    by_cases hc2 : v2 = 0
    · rw [if_pos hc2] at hf
      refine t_jT (t := 25) (rfl : mfetch 149 18 = some (18, .ifCond .eq 7, 3, 0, 0, 0)) rfl (k_eq hc2) ?_
      refine mEnds.cut (l := [none, some (.int x1), some (.int x2)]) ⟨rfl, ⟨rfl, trivial⟩⟩ ?_
      exact ok_M_lag_25 hf
    · rw [if_neg hc2] at hf
      refine t_jF (rfl : mfetch 149 18 = some (18, .ifCond .eq 7, 3, 0, 0, 0)) (k_eq' hc2) ?_
      refine mEnds.stp 2 (pc' := 26) (l' := [some (.ref 10), some (.int x1), some (.int x2)]) (st' := [.int (nI 1), .ref 10]) (fun _ => rfl) ?_
      refine mEnds.cut (l := [none, some (.int x1), some (.int x2)]) ⟨rfl, ⟨rfl, trivial⟩⟩ ?_
      exact ok_M_lag_26 hf
def M_sky_30 (x1 : Int32) (x2 : Int32) (y0 : Int32) (s : sg) : Option (Int32 × sg) :=
  (M_puts y0 ((nI 41) + x1) x2 (nI 10) s).bind fun v1 =>
  some (v1.1, v1.2)
set_option maxRecDepth 100000 in
theorem ok_M_sky_30 {x1 : Int32} {x2 : Int32} {y0 : Int32} {s : sg} {rv : (Int32 × sg)} (hf : M_sky_30 x1 x2 y0 s = some rv) : mEnds [] 1 150 (30, [none, some (.int x1), some (.int x2)], [.int y0, .ref 10], hp shM s, 0, 0) (some (.int rv.1), hp shM rv.2, 0, 0) := by
  unfold M_sky_30 at hf
  refine mEnds.stp 5 (pc' := 37) (l' := [none, some (.int x1), some (.int x2)]) (st' := [.int (nI 10), .int x2, .int ((nI 41) + x1), .int y0, .ref 10]) (fun _ => rfl) ?_
  obtain ⟨v1, hv1, hf⟩ := ob hf
  refine t_cv (as := [.int y0, .int ((nI 41) + x1), .int x2, .int (nI 10)]) (st := []) (rfl : mfetch 150 37 = some (37, .invokevirtual 185, 3, 142, 0, 0)) rfl rfl rfl rfl rfl (ok_M_puts hv1) ?_
  exact mEnds.rti (Option.some.inj hf) (fun _ => rfl)
def M_sky_29 (x1 : Int32) (x2 : Int32) (s : sg) : Option (Int32 × sg) :=
  M_sky_30 x1 x2 (nI 0) s
set_option maxRecDepth 100000 in
theorem ok_M_sky_29 {x1 : Int32} {x2 : Int32} {s : sg} {rv : (Int32 × sg)} (hf : M_sky_29 x1 x2 s = some rv) : mEnds [] 1 150 (29, [none, some (.int x1), some (.int x2)], [.ref 10], hp shM s, 0, 0) (some (.int rv.1), hp shM rv.2, 0, 0) := by
  unfold M_sky_29 at hf
  refine mEnds.stp 1 (pc' := 30) (l' := [none, some (.int x1), some (.int x2)]) (st' := [.int (nI 0), .ref 10]) (fun _ => rfl) ?_
  refine mEnds.cut (l := [none, some (.int x1), some (.int x2)]) ⟨rfl, ⟨rfl, trivial⟩⟩ ?_
  exact ok_M_sky_30 hf
def M_sky (x1 : Int32) (x2 : Int32) (s : sg) : Option (Int32 × sg) :=
  (M_in x1.toInt64 (0 : Int64) (7 : Int64) s).bind fun v1 =>
  if v1 = 0 then
    M_sky_29 x1 x2 s
  else
    (M_in x2.toInt64 (0 : Int64) (99 : Int64) s).bind fun v2 =>
    if v2 = 0 then
      M_sky_29 x1 x2 s
    else
      M_sky_30 x1 x2 (nI 1) s
set_option maxRecDepth 100000 in
theorem ok_M_sky {x1 : Int32} {x2 : Int32} {s : sg} {rv : (Int32 × sg)} (hf : M_sky x1 x2 s = some rv) : mEnds [] 1 150 (0, [some (.ref 10), some (.int x1), some (.int x2)], [], hp shM s, 0, 0) (some (.int rv.1), hp shM rv.2, 0, 0) := by
  unfold M_sky at hf
  refine mEnds.stp 5 (pc' := 7) (l' := [some (.ref 10), some (.int x1), some (.int x2)]) (st' := [.long (7 : Int64), .long (0 : Int64), .long x1.toInt64, .ref 10]) (fun _ => rfl) ?_
  obtain ⟨v1, hv1, hf⟩ := ob hf
  refine t_cs (as := [.long x1.toInt64, .long (0 : Int64), .long (7 : Int64)]) (st := [.ref 10]) (Or.inl rfl) (rfl : mfetch 150 7 = some (7, .invokestatic 49, 3, 111, 0, 0)) rfl rfl rfl (ok_M_in hv1) ?_
  by_cases hc1 : v1 = 0
  · rw [if_pos hc1] at hf
    refine t_jT (t := 29) (rfl : mfetch 150 10 = some (10, .ifCond .eq 19, 3, 0, 0, 0)) rfl (k_eq hc1) ?_
    refine mEnds.cut (l := [none, some (.int x1), some (.int x2)]) ⟨rfl, ⟨rfl, trivial⟩⟩ ?_
    exact ok_M_sky_29 hf
  · rw [if_neg hc1] at hf
    refine t_jF (rfl : mfetch 150 10 = some (10, .ifCond .eq 19, 3, 0, 0, 0)) (k_eq' hc1) ?_
    refine mEnds.stp 4 (pc' := 19) (l' := [some (.ref 10), some (.int x1), some (.int x2)]) (st' := [.long (99 : Int64), .long (0 : Int64), .long x2.toInt64, .ref 10]) (fun _ => rfl) ?_
    obtain ⟨v2, hv2, hf⟩ := ob hf
    refine t_cs (as := [.long x2.toInt64, .long (0 : Int64), .long (99 : Int64)]) (st := [.ref 10]) (Or.inl rfl) (rfl : mfetch 150 19 = some (19, .invokestatic 49, 3, 111, 0, 0)) rfl rfl rfl (ok_M_in hv2) ?_
    by_cases hc2 : v2 = 0
    · rw [if_pos hc2] at hf
      refine t_jT (t := 29) (rfl : mfetch 150 22 = some (22, .ifCond .eq 7, 3, 0, 0, 0)) rfl (k_eq hc2) ?_
      refine mEnds.cut (l := [none, some (.int x1), some (.int x2)]) ⟨rfl, ⟨rfl, trivial⟩⟩ ?_
      exact ok_M_sky_29 hf
    · rw [if_neg hc2] at hf
      refine t_jF (rfl : mfetch 150 22 = some (22, .ifCond .eq 7, 3, 0, 0, 0)) (k_eq' hc2) ?_
      refine mEnds.stp 2 (pc' := 30) (l' := [some (.ref 10), some (.int x1), some (.int x2)]) (st' := [.int (nI 1), .ref 10]) (fun _ => rfl) ?_
      refine mEnds.cut (l := [none, some (.int x1), some (.int x2)]) ⟨rfl, ⟨rfl, trivial⟩⟩ ?_
      exact ok_M_sky_30 hf
def M_hours_42 (x1 : Int32) (x2 : Int32) : Nat → Int32 → sg → Option (Int32 × sg)
  | 0, _, _ => none
  | fu + 1, x3, s =>
  if x3 < x1 then
    (M_goesOn (nI 0) s).bind fun s1 =>
    M_hours_42 x1 x2 fu (x3 + (nI 1)) s1
  else
    (midx (nI 50) 312).bind fun j1 =>
    some ((s 11 j1) - x2, s)
set_option maxRecDepth 100000 in
theorem ok_M_hours_42 {x1 : Int32} {x2 : Int32} : ∀ (fu : Nat) (x3 : Int32) (s : sg) (rv : (Int32 × sg)), M_hours_42 x1 x2 fu x3 s = some rv → mEnds [] 4 151 (42, [some (.ref 10), some (.int x1), some (.int x2), some (.int x3)], [], hp shM s, 0, 0) (some (.int rv.1), hp shM rv.2, 0, 0)
  | 0, _, _, _, hf => by cases hf
  | fu + 1, x3, s, rv, hf => by
    rw [M_hours_42] at hf
    refine mEnds.stp 2 (pc' := 44) (l' := [some (.ref 10), some (.int x1), some (.int x2), some (.int x3)]) (st' := [.int x1, .int x3]) (fun _ => rfl) ?_
    by_cases hc1 : x3 < x1
    · rw [if_pos hc1] at hf
      refine t_cF (rfl : mfetch 151 44 = some (44, .if_icmp .ge 14, 3, 0, 0, 0)) (k_ge' hc1) ?_
      refine mEnds.stp 2 (pc' := 49) (l' := [some (.ref 10), some (.int x1), some (.int x2), some (.int x3)]) (st' := [.int (nI 0), .ref 10]) (fun _ => rfl) ?_
      obtain ⟨s1, hs1, hf⟩ := ob hf
      refine t_cv (as := [.int (nI 0)]) (st := []) (rfl : mfetch 151 49 = some (49, .invokevirtual 198, 3, 134, 0, 0)) rfl rfl rfl rfl rfl (ok_M_goesOn hs1) ?_
      refine mEnds.stp 2 (pc' := 42) (l' := [some (.ref 10), some (.int x1), some (.int x2), some (.int (x3 + (nI 1)))]) (st' := []) (fun _ => rfl) ?_
      refine mEnds.cut (l := [some (.ref 10), some (.int x1), some (.int x2), some (.int (x3 + (nI 1)))]) ⟨rfl, ⟨rfl, ⟨rfl, ⟨rfl, trivial⟩⟩⟩⟩ ?_
      exact ok_M_hours_42 fu (x3 + (nI 1)) s1 _ hf
    · rw [if_neg hc1] at hf
      refine t_cT (t := 58) (rfl : mfetch 151 44 = some (44, .if_icmp .ge 14, 3, 0, 0, 0)) rfl (k_ge hc1) ?_
      refine mEnds.stp 1 (pc' := 59) (l' := [some (.ref 10), some (.int x1), some (.int x2), some (.int x3)]) (st' := [.ref 10]) (fun _ => rfl) ?_
      refine t_gr (rfl : mfetch 151 59 = some (59, .getfield 7, 3, 5, 0, 0)) rfl rfl ?_
      refine mEnds.stp 1 (pc' := 64) (l' := [some (.ref 10), some (.int x1), some (.int x2), some (.int x3)]) (st' := [.int (nI 50), .ref 11]) (fun _ => rfl) ?_
      obtain ⟨j1, hj1, hf⟩ := ob hf
      refine t_ia (rfl : mfetch 151 64 = some (64, .iaload, 1, 0, 0, 0)) rfl rfl hj1 ?_
      refine mEnds.stp 2 (pc' := 67) (l' := [some (.ref 10), some (.int x1), some (.int x2), some (.int x3)]) (st' := [.int ((s 11 j1) - x2)]) (fun _ => rfl) ?_
      exact mEnds.rti (Option.some.inj hf) (fun _ => rfl)
def M_hours (x1 : Int32) (s : sg) : Option (Int32 × sg) :=
  (M_in x1.toInt64 (0 : Int64) (48 : Int64) s).bind fun v1 =>
  if v1 = 0 then
    some ((-1), s)
  else
    (midx (nI 49) 312).bind fun j1 =>
    if nI 999 < (s 11 j1) + x1 then
      some ((-3), s)
    else
      (midx (nI 50) 312).bind fun j2 =>
      M_hours_42 x1 (s 11 j2) FU (nI 0) s
set_option maxRecDepth 100000 in
theorem ok_M_hours {x1 : Int32} {s : sg} {rv : (Int32 × sg)} (hf : M_hours x1 s = some rv) : mEnds [] 4 151 (0, [some (.ref 10), some (.int x1), none, none], [], hp shM s, 0, 0) (some (.int rv.1), hp shM rv.2, 0, 0) := by
  unfold M_hours at hf
  refine mEnds.stp 4 (pc' := 6) (l' := [some (.ref 10), some (.int x1), none, none]) (st' := [.long (48 : Int64), .long (0 : Int64), .long x1.toInt64]) (fun _ => rfl) ?_
  obtain ⟨v1, hv1, hf⟩ := ob hf
  refine t_cs (as := [.long x1.toInt64, .long (0 : Int64), .long (48 : Int64)]) (st := []) (Or.inl rfl) (rfl : mfetch 151 6 = some (6, .invokestatic 49, 3, 111, 0, 0)) rfl rfl rfl ((ok_M_in hv1).deep 3) ?_
  by_cases hc1 : v1 = 0
  · rw [if_pos hc1] at hf
    refine t_jF (rfl : mfetch 151 9 = some (9, .ifCond .ne 5, 3, 0, 0, 0)) (k_ne' hc1) ?_
    refine mEnds.stp 1 (pc' := 13) (l' := [some (.ref 10), some (.int x1), none, none]) (st' := [.int (-1)]) (fun _ => rfl) ?_
    exact mEnds.rti (Option.some.inj hf) (fun _ => rfl)
  · rw [if_neg hc1] at hf
    refine t_jT (t := 14) (rfl : mfetch 151 9 = some (9, .ifCond .ne 5, 3, 0, 0, 0)) rfl (k_ne hc1) ?_
    refine mEnds.stp 1 (pc' := 15) (l' := [some (.ref 10), some (.int x1), none, none]) (st' := [.ref 10]) (fun _ => rfl) ?_
    refine t_gr (rfl : mfetch 151 15 = some (15, .getfield 7, 3, 5, 0, 0)) rfl rfl ?_
    refine mEnds.stp 1 (pc' := 20) (l' := [some (.ref 10), some (.int x1), none, none]) (st' := [.int (nI 49), .ref 11]) (fun _ => rfl) ?_
    obtain ⟨j1, hj1, hf⟩ := ob hf
    refine t_ia (rfl : mfetch 151 20 = some (20, .iaload, 1, 0, 0, 0)) rfl rfl hj1 ?_
    refine mEnds.stp 3 (pc' := 26) (l' := [some (.ref 10), some (.int x1), none, none]) (st' := [.int (nI 999), .int ((s 11 j1) + x1)]) (fun _ => rfl) ?_
    by_cases hc2 : nI 999 < (s 11 j1) + x1
    · rw [if_pos hc2] at hf
      refine t_cF (rfl : mfetch 151 26 = some (26, .if_icmp .le 6, 3, 0, 0, 0)) (k_le' hc2) ?_
      refine mEnds.stp 1 (pc' := 31) (l' := [some (.ref 10), some (.int x1), none, none]) (st' := [.int (-3)]) (fun _ => rfl) ?_
      exact mEnds.rti (Option.some.inj hf) (fun _ => rfl)
    · rw [if_neg hc2] at hf
      refine t_cT (t := 32) (rfl : mfetch 151 26 = some (26, .if_icmp .le 6, 3, 0, 0, 0)) rfl (k_le hc2) ?_
      refine mEnds.stp 1 (pc' := 33) (l' := [some (.ref 10), some (.int x1), none, none]) (st' := [.ref 10]) (fun _ => rfl) ?_
      refine t_gr (rfl : mfetch 151 33 = some (33, .getfield 7, 3, 5, 0, 0)) rfl rfl ?_
      refine mEnds.stp 1 (pc' := 38) (l' := [some (.ref 10), some (.int x1), none, none]) (st' := [.int (nI 50), .ref 11]) (fun _ => rfl) ?_
      obtain ⟨j2, hj2, hf⟩ := ob hf
      refine t_ia (rfl : mfetch 151 38 = some (38, .iaload, 1, 0, 0, 0)) rfl rfl hj2 ?_
      refine mEnds.stp 3 (pc' := 42) (l' := [some (.ref 10), some (.int x1), some (.int (s 11 j2)), some (.int (nI 0))]) (st' := []) (fun _ => rfl) ?_
      refine mEnds.cut (l := [some (.ref 10), some (.int x1), some (.int (s 11 j2)), some (.int (nI 0))]) ⟨rfl, ⟨rfl, ⟨rfl, ⟨rfl, trivial⟩⟩⟩⟩ ?_
      exact ok_M_hours_42 FU (nI 0) s _ hf
def M_copies_2 (x1 : Int32) (x2 : Int32) : Nat → Int32 → sg → Option sg
  | 0, _, _ => none
  | fu + 1, x3, s =>
  if x3 < nI 52 then
    (midx (x1 + x3) 312).bind fun j1 =>
    (midx (x2 + x3) 312).bind fun j2 =>
    (some (up s 11 j2 (s 11 j1))).bind fun s1 =>
    M_copies_2 x1 x2 fu (x3 + (nI 1)) s1
  else
    some s
set_option maxRecDepth 100000 in
theorem ok_M_copies_2 {x1 : Int32} {x2 : Int32} : ∀ (fu : Nat) (x3 : Int32) (s : sg) (rv : sg), M_copies_2 x1 x2 fu x3 s = some rv → mEnds [] 0 152 (2, [some (.ref 10), some (.int x1), some (.int x2), some (.int x3)], [], hp shM s, 0, 0) (none, hp shM rv, 0, 0)
  | 0, _, _, _, hf => by cases hf
  | fu + 1, x3, s, rv, hf => by
    rw [M_copies_2] at hf
    refine mEnds.stp 2 (pc' := 5) (l' := [some (.ref 10), some (.int x1), some (.int x2), some (.int x3)]) (st' := [.int (nI 52), .int x3]) (fun _ => rfl) ?_
    by_cases hc1 : x3 < nI 52
    · rw [if_pos hc1] at hf
      refine t_cF (rfl : mfetch 152 5 = some (5, .if_icmp .ge 25, 3, 0, 0, 0)) (k_ge' hc1) ?_
      refine mEnds.stp 1 (pc' := 9) (l' := [some (.ref 10), some (.int x1), some (.int x2), some (.int x3)]) (st' := [.ref 10]) (fun _ => rfl) ?_
      refine t_gr (rfl : mfetch 152 9 = some (9, .getfield 7, 3, 5, 0, 0)) rfl rfl ?_
      refine mEnds.stp 4 (pc' := 16) (l' := [some (.ref 10), some (.int x1), some (.int x2), some (.int x3)]) (st' := [.ref 10, .int (x2 + x3), .ref 11]) (fun _ => rfl) ?_
      refine t_gr (rfl : mfetch 152 16 = some (16, .getfield 7, 3, 5, 0, 0)) rfl rfl ?_
      refine mEnds.stp 3 (pc' := 22) (l' := [some (.ref 10), some (.int x1), some (.int x2), some (.int x3)]) (st' := [.int (x1 + x3), .ref 11, .int (x2 + x3), .ref 11]) (fun _ => rfl) ?_
      obtain ⟨j1, hj1, hf⟩ := ob hf
      refine t_ia (rfl : mfetch 152 22 = some (22, .iaload, 1, 0, 0, 0)) rfl rfl hj1 ?_
      obtain ⟨j2, hj2, hf⟩ := ob hf
      obtain ⟨s1, hs1, hf⟩ := ob hf
      refine t_is (rfl : mfetch 152 23 = some (23, .iastore, 1, 0, 0, 0)) rfl rfl hj2 hs1 ?_
      refine mEnds.stp 2 (pc' := 2) (l' := [some (.ref 10), some (.int x1), some (.int x2), some (.int (x3 + (nI 1)))]) (st' := []) (fun _ => rfl) ?_
      refine mEnds.cut (l := [some (.ref 10), some (.int x1), some (.int x2), some (.int (x3 + (nI 1)))]) ⟨rfl, ⟨rfl, ⟨rfl, ⟨rfl, trivial⟩⟩⟩⟩ ?_
      exact ok_M_copies_2 fu (x3 + (nI 1)) s1 _ hf
    · rw [if_neg hc1] at hf
      refine t_cT (t := 30) (rfl : mfetch 152 5 = some (5, .if_icmp .ge 25, 3, 0, 0, 0)) rfl (k_ge hc1) ?_
      cases hf; exact mEnds.rt (fun _ => rfl)
def M_copies (x1 : Int32) (x2 : Int32) (s : sg) : Option sg :=
  M_copies_2 x1 x2 FU (nI 0) s
set_option maxRecDepth 100000 in
theorem ok_M_copies {x1 : Int32} {x2 : Int32} {s : sg} {rv : sg} (hf : M_copies x1 x2 s = some rv) : mEnds [] 0 152 (0, [some (.ref 10), some (.int x1), some (.int x2), none], [], hp shM s, 0, 0) (none, hp shM rv, 0, 0) := by
  unfold M_copies at hf
  refine mEnds.stp 2 (pc' := 2) (l' := [some (.ref 10), some (.int x1), some (.int x2), some (.int (nI 0))]) (st' := []) (fun _ => rfl) ?_
  refine mEnds.cut (l := [some (.ref 10), some (.int x1), some (.int x2), some (.int (nI 0))]) ⟨rfl, ⟨rfl, ⟨rfl, ⟨rfl, trivial⟩⟩⟩⟩ ?_
  exact ok_M_copies_2 FU (nI 0) s _ hf
def M_hoursGo_89 (k27 : Int32 → sg → Option (Int32 × sg)) (x2 : Int32) (x3 : Int32) (y0 : Int32) (s : sg) : Option (Int32 × sg) :=
  (some (up s 10 20 y0)).bind fun s1 =>
  k27 (x3 + (nI 1)) s1
set_option maxRecDepth 100000 in
theorem ok_M_hoursGo_89 {k27 : Int32 → sg → Option (Int32 × sg)} {x2 : Int32} {x3 : Int32} {y0 : Int32} {s : sg} {rv : (Int32 × sg)} (hk27 : ∀ (x3 : Int32) (s : sg) (rv : (Int32 × sg)), k27 x3 s = some rv → mEnds [] 4 153 (27, [some (.ref 10), none, some (.int x2), some (.int x3), none], [], hp shM s, 0, 0) (some (.int rv.1), hp shM rv.2, 0, 0)) (hf : M_hoursGo_89 k27 x2 x3 y0 s = some rv) : mEnds [] 4 153 (89, [some (.ref 10), none, some (.int x2), some (.int x3), none], [.int y0, .ref 10], hp shM s, 0, 0) (some (.int rv.1), hp shM rv.2, 0, 0) := by
  unfold M_hoursGo_89 at hf
  obtain ⟨s1, hs1, hf⟩ := ob hf
  refine t_pi (rfl : mfetch 153 89 = some (89, .putfield 210, 3, 5, 20, 0)) rfl rfl rfl rfl hs1 ?_
  refine mEnds.stp 2 (pc' := 27) (l' := [some (.ref 10), none, some (.int x2), some (.int (x3 + (nI 1))), none]) (st' := []) (fun _ => rfl) ?_
  refine mEnds.cut (l := [some (.ref 10), none, some (.int x2), some (.int (x3 + (nI 1))), none]) ⟨rfl, ⟨rfl, ⟨rfl, trivial⟩⟩⟩ ?_
  exact hk27 (x3 + (nI 1)) s1 _ hf
def M_hoursGo_67 (k27 : Int32 → sg → Option (Int32 × sg)) (x2 : Int32) (x3 : Int32) (x4 : Int32) (y0 : Int32) (s : sg) : Option (Int32 × sg) :=
  (some (up s 10 19 y0)).bind fun s1 =>
  if x4 < s1 10 20 then
    M_hoursGo_89 k27 x2 x3 x4 s1
  else
    M_hoursGo_89 k27 x2 x3 (s1 10 20) s1
set_option maxRecDepth 100000 in
theorem ok_M_hoursGo_67 {k27 : Int32 → sg → Option (Int32 × sg)} {x2 : Int32} {x3 : Int32} {x4 : Int32} {y0 : Int32} {s : sg} {rv : (Int32 × sg)} (hk27 : ∀ (x3 : Int32) (s : sg) (rv : (Int32 × sg)), k27 x3 s = some rv → mEnds [] 4 153 (27, [some (.ref 10), none, some (.int x2), some (.int x3), none], [], hp shM s, 0, 0) (some (.int rv.1), hp shM rv.2, 0, 0)) (hf : M_hoursGo_67 k27 x2 x3 x4 y0 s = some rv) : mEnds [] 4 153 (67, [some (.ref 10), none, some (.int x2), some (.int x3), some (.int x4)], [.int y0, .ref 10], hp shM s, 0, 0) (some (.int rv.1), hp shM rv.2, 0, 0) := by
  unfold M_hoursGo_67 at hf
  obtain ⟨s1, hs1, hf⟩ := ob hf
  refine t_pi (rfl : mfetch 153 67 = some (67, .putfield 207, 3, 5, 19, 0)) rfl rfl rfl rfl hs1 ?_
  refine mEnds.stp 3 (pc' := 74) (l' := [some (.ref 10), none, some (.int x2), some (.int x3), some (.int x4)]) (st' := [.ref 10, .int x4, .ref 10]) (fun _ => rfl) ?_
  refine t_gi (rfl : mfetch 153 74 = some (74, .getfield 210, 3, 5, 20, 0)) rfl rfl ?_
  by_cases hc1 : x4 < s1 10 20
  · rw [if_pos hc1] at hf
    refine t_cF (rfl : mfetch 153 77 = some (77, .if_icmp .ge 8, 3, 0, 0, 0)) (k_ge' hc1) ?_
    refine mEnds.stp 2 (pc' := 89) (l' := [some (.ref 10), none, some (.int x2), some (.int x3), some (.int x4)]) (st' := [.int x4, .ref 10]) (fun _ => rfl) ?_
    refine mEnds.cut (l := [some (.ref 10), none, some (.int x2), some (.int x3), none]) ⟨rfl, ⟨rfl, ⟨rfl, trivial⟩⟩⟩ ?_
    exact ok_M_hoursGo_89 hk27 hf
  · rw [if_neg hc1] at hf
    refine t_cT (t := 85) (rfl : mfetch 153 77 = some (77, .if_icmp .ge 8, 3, 0, 0, 0)) rfl (k_ge hc1) ?_
    refine mEnds.stp 1 (pc' := 86) (l' := [some (.ref 10), none, some (.int x2), some (.int x3), some (.int x4)]) (st' := [.ref 10, .ref 10]) (fun _ => rfl) ?_
    refine t_gi (rfl : mfetch 153 86 = some (86, .getfield 210, 3, 5, 20, 0)) rfl rfl ?_
    refine mEnds.cut (l := [some (.ref 10), none, some (.int x2), some (.int x3), none]) ⟨rfl, ⟨rfl, ⟨rfl, trivial⟩⟩⟩ ?_
    exact ok_M_hoursGo_89 hk27 hf
def M_hoursGo_27 (x2 : Int32) : Nat → Int32 → sg → Option (Int32 × sg)
  | 0, _, _ => none
  | fu + 1, x3, s =>
  if x3 < x2 then
    (M_goesOn (nI 208) s).bind fun s1 =>
    (M_coldestOn (nI 208) s1).bind fun v2 =>
    if v2 < s1 10 19 then
      M_hoursGo_67 (M_hoursGo_27 x2 fu) x2 x3 v2 v2 s1
    else
      M_hoursGo_67 (M_hoursGo_27 x2 fu) x2 x3 v2 (s1 10 19) s1
  else
    (midx (nI 258) 312).bind fun j1 =>
    (midx (nI 50) 312).bind fun j2 =>
    some ((s 11 j1) - (s 11 j2), s)
set_option maxRecDepth 100000 in
theorem ok_M_hoursGo_27 {x2 : Int32} : ∀ (fu : Nat) (x3 : Int32) (s : sg) (rv : (Int32 × sg)), M_hoursGo_27 x2 fu x3 s = some rv → mEnds [] 4 153 (27, [some (.ref 10), none, some (.int x2), some (.int x3), none], [], hp shM s, 0, 0) (some (.int rv.1), hp shM rv.2, 0, 0)
  | 0, _, _, _, hf => by cases hf
  | fu + 1, x3, s, rv, hf => by
    rw [M_hoursGo_27] at hf
    refine mEnds.stp 2 (pc' := 29) (l' := [some (.ref 10), none, some (.int x2), some (.int x3), none]) (st' := [.int x2, .int x3]) (fun _ => rfl) ?_
    by_cases hc1 : x3 < x2
    · rw [if_pos hc1] at hf
      refine t_cF (rfl : mfetch 153 29 = some (29, .if_icmp .ge 69, 3, 0, 0, 0)) (k_ge' hc1) ?_
      refine mEnds.stp 2 (pc' := 36) (l' := [some (.ref 10), none, some (.int x2), some (.int x3), none]) (st' := [.int (nI 208), .ref 10]) (fun _ => rfl) ?_
      obtain ⟨s1, hs1, hf⟩ := ob hf
      refine t_cv (as := [.int (nI 208)]) (st := []) (rfl : mfetch 153 36 = some (36, .invokevirtual 198, 3, 134, 0, 0)) rfl rfl rfl rfl rfl (ok_M_goesOn hs1) ?_
      refine mEnds.stp 2 (pc' := 43) (l' := [some (.ref 10), none, some (.int x2), some (.int x3), none]) (st' := [.int (nI 208), .ref 10]) (fun _ => rfl) ?_
      obtain ⟨v2, hv2, hf⟩ := ob hf
      refine t_cv (as := [.int (nI 208)]) (st := []) (rfl : mfetch 153 43 = some (43, .invokevirtual 204, 3, 137, 0, 0)) rfl rfl rfl rfl rfl ((ok_M_coldestOn hv2).deep 3) ?_
      refine mEnds.stp 4 (pc' := 52) (l' := [some (.ref 10), none, some (.int x2), some (.int x3), some (.int v2)]) (st' := [.ref 10, .int v2, .ref 10]) (fun _ => rfl) ?_
      refine t_gi (rfl : mfetch 153 52 = some (52, .getfield 207, 3, 5, 19, 0)) rfl rfl ?_
      by_cases hc2 : v2 < s1 10 19
      · rw [if_pos hc2] at hf
        refine t_cF (rfl : mfetch 153 55 = some (55, .if_icmp .ge 8, 3, 0, 0, 0)) (k_ge' hc2) ?_
        refine mEnds.stp 2 (pc' := 67) (l' := [some (.ref 10), none, some (.int x2), some (.int x3), some (.int v2)]) (st' := [.int v2, .ref 10]) (fun _ => rfl) ?_
        refine mEnds.cut (l := [some (.ref 10), none, some (.int x2), some (.int x3), some (.int v2)]) ⟨rfl, ⟨rfl, ⟨rfl, ⟨rfl, trivial⟩⟩⟩⟩ ?_
        exact ok_M_hoursGo_67 (ok_M_hoursGo_27 fu) hf
      · rw [if_neg hc2] at hf
        refine t_cT (t := 63) (rfl : mfetch 153 55 = some (55, .if_icmp .ge 8, 3, 0, 0, 0)) rfl (k_ge hc2) ?_
        refine mEnds.stp 1 (pc' := 64) (l' := [some (.ref 10), none, some (.int x2), some (.int x3), some (.int v2)]) (st' := [.ref 10, .ref 10]) (fun _ => rfl) ?_
        refine t_gi (rfl : mfetch 153 64 = some (64, .getfield 207, 3, 5, 19, 0)) rfl rfl ?_
        refine mEnds.cut (l := [some (.ref 10), none, some (.int x2), some (.int x3), some (.int v2)]) ⟨rfl, ⟨rfl, ⟨rfl, ⟨rfl, trivial⟩⟩⟩⟩ ?_
        exact ok_M_hoursGo_67 (ok_M_hoursGo_27 fu) hf
    · rw [if_neg hc1] at hf
      refine t_cT (t := 98) (rfl : mfetch 153 29 = some (29, .if_icmp .ge 69, 3, 0, 0, 0)) rfl (k_ge hc1) ?_
      refine mEnds.stp 1 (pc' := 99) (l' := [some (.ref 10), none, some (.int x2), some (.int x3), none]) (st' := [.ref 10]) (fun _ => rfl) ?_
      refine t_gr (rfl : mfetch 153 99 = some (99, .getfield 7, 3, 5, 0, 0)) rfl rfl ?_
      refine mEnds.stp 1 (pc' := 105) (l' := [some (.ref 10), none, some (.int x2), some (.int x3), none]) (st' := [.int (nI 258), .ref 11]) (fun _ => rfl) ?_
      obtain ⟨j1, hj1, hf⟩ := ob hf
      refine t_ia (rfl : mfetch 153 105 = some (105, .iaload, 1, 0, 0, 0)) rfl rfl hj1 ?_
      refine mEnds.stp 1 (pc' := 107) (l' := [some (.ref 10), none, some (.int x2), some (.int x3), none]) (st' := [.ref 10, .int (s 11 j1)]) (fun _ => rfl) ?_
      refine t_gr (rfl : mfetch 153 107 = some (107, .getfield 7, 3, 5, 0, 0)) rfl rfl ?_
      refine mEnds.stp 1 (pc' := 112) (l' := [some (.ref 10), none, some (.int x2), some (.int x3), none]) (st' := [.int (nI 50), .ref 11, .int (s 11 j1)]) (fun _ => rfl) ?_
      obtain ⟨j2, hj2, hf⟩ := ob hf
      refine t_ia (rfl : mfetch 153 112 = some (112, .iaload, 1, 0, 0, 0)) rfl rfl hj2 ?_
      refine mEnds.stp 1 (pc' := 114) (l' := [some (.ref 10), none, some (.int x2), some (.int x3), none]) (st' := [.int ((s 11 j1) - (s 11 j2))]) (fun _ => rfl) ?_
      exact mEnds.rti (Option.some.inj hf) (fun _ => rfl)
def M_hoursGo (x1 : Int32) (x2 : Int32) (s : sg) : Option (Int32 × sg) :=
  (M_copies x1 (nI 208) s).bind fun s1 =>
  (M_coldestOn (nI 208) s1).bind fun v2 =>
  (some (up s1 10 19 v2)).bind fun s2 =>
  (some (up s2 10 20 (nI 99))).bind fun s3 =>
  M_hoursGo_27 x2 FU (nI 0) s3
set_option maxRecDepth 100000 in
theorem ok_M_hoursGo {x1 : Int32} {x2 : Int32} {s : sg} {rv : (Int32 × sg)} (hf : M_hoursGo x1 x2 s = some rv) : mEnds [] 4 153 (0, [some (.ref 10), some (.int x1), some (.int x2), none, none], [], hp shM s, 0, 0) (some (.int rv.1), hp shM rv.2, 0, 0) := by
  unfold M_hoursGo at hf
  refine mEnds.stp 3 (pc' := 5) (l' := [some (.ref 10), some (.int x1), some (.int x2), none, none]) (st' := [.int (nI 208), .int x1, .ref 10]) (fun _ => rfl) ?_
  obtain ⟨s1, hs1, hf⟩ := ob hf
  refine t_cv (as := [.int x1, .int (nI 208)]) (st := []) (rfl : mfetch 153 5 = some (5, .invokevirtual 201, 3, 152, 0, 0)) rfl rfl rfl rfl rfl ((ok_M_copies hs1).deep 3) ?_
  refine mEnds.stp 3 (pc' := 13) (l' := [some (.ref 10), some (.int x1), some (.int x2), none, none]) (st' := [.int (nI 208), .ref 10, .ref 10]) (fun _ => rfl) ?_
  obtain ⟨v2, hv2, hf⟩ := ob hf
  refine t_cv (as := [.int (nI 208)]) (st := [.ref 10]) (rfl : mfetch 153 13 = some (13, .invokevirtual 204, 3, 137, 0, 0)) rfl rfl rfl rfl rfl ((ok_M_coldestOn hv2).deep 3) ?_
  obtain ⟨s2, hs2, hf⟩ := ob hf
  refine t_pi (rfl : mfetch 153 16 = some (16, .putfield 207, 3, 5, 19, 0)) rfl rfl rfl rfl hs2 ?_
  refine mEnds.stp 2 (pc' := 22) (l' := [some (.ref 10), some (.int x1), some (.int x2), none, none]) (st' := [.int (nI 99), .ref 10]) (fun _ => rfl) ?_
  obtain ⟨s3, hs3, hf⟩ := ob hf
  refine t_pi (rfl : mfetch 153 22 = some (22, .putfield 210, 3, 5, 20, 0)) rfl rfl rfl rfl hs3 ?_
  refine mEnds.stp 2 (pc' := 27) (l' := [some (.ref 10), some (.int x1), some (.int x2), some (.int (nI 0)), none]) (st' := []) (fun _ => rfl) ?_
  refine mEnds.cut (l := [some (.ref 10), none, some (.int x2), some (.int (nI 0)), none]) ⟨rfl, ⟨rfl, ⟨rfl, trivial⟩⟩⟩ ?_
  exact ok_M_hoursGo_27 FU (nI 0) s3 _ hf
def M_runs (x1 : Int32) (x2 : Int32) (s : sg) : Option (Int32 × sg) :=
  (M_in x1.toInt64 (0 : Int64) (60 : Int64) s).bind fun v1 =>
  if v1 = 0 then
    some ((-1), s)
  else
    (M_in x2.toInt64 (0 : Int64) (4 : Int64) s).bind fun v2 =>
    if v2 = 0 then
      some ((-1), s)
    else
      (M_hoursGo (nI 0) x1 s).bind fun v3 =>
      if x2 = nI 0 then
        some (v3.1, v3.2)
      else
        if x2 = nI 1 then
          (midx (nI 259) 312).bind fun j1 =>
          (midx (nI 51) 312).bind fun j2 =>
          some ((v3.2 11 j1) - (v3.2 11 j2), v3.2)
        else
          if x2 = nI 2 then
            (M_warmthOn (nI 208) v3.2).bind fun v4 =>
            some (v4, v3.2)
          else
            if x2 = nI 3 then
              some (v3.2 10 19, v3.2)
            else
              (M_onOn (nI 208) v3.2).bind fun v5 =>
              some (v5, v3.2)
set_option maxRecDepth 100000 in
theorem ok_M_runs {x1 : Int32} {x2 : Int32} {s : sg} {rv : (Int32 × sg)} (hf : M_runs x1 x2 s = some rv) : mEnds [] 5 154 (0, [some (.ref 10), some (.int x1), some (.int x2), none], [], hp shM s, 0, 0) (some (.int rv.1), hp shM rv.2, 0, 0) := by
  unfold M_runs at hf
  refine mEnds.stp 4 (pc' := 6) (l' := [some (.ref 10), some (.int x1), some (.int x2), none]) (st' := [.long (60 : Int64), .long (0 : Int64), .long x1.toInt64]) (fun _ => rfl) ?_
  obtain ⟨v1, hv1, hf⟩ := ob hf
  refine t_cs (as := [.long x1.toInt64, .long (0 : Int64), .long (60 : Int64)]) (st := []) (Or.inl rfl) (rfl : mfetch 154 6 = some (6, .invokestatic 49, 3, 111, 0, 0)) rfl rfl rfl ((ok_M_in hv1).deep 4) ?_
  by_cases hc1 : v1 = 0
  · rw [if_pos hc1] at hf
    refine t_jT (t := 24) (rfl : mfetch 154 9 = some (9, .ifCond .eq 15, 3, 0, 0, 0)) rfl (k_eq hc1) ?_
    refine mEnds.stp 1 (pc' := 25) (l' := [some (.ref 10), some (.int x1), some (.int x2), none]) (st' := [.int (-1)]) (fun _ => rfl) ?_
    exact mEnds.rti (Option.some.inj hf) (fun _ => rfl)
  · rw [if_neg hc1] at hf
    refine t_jF (rfl : mfetch 154 9 = some (9, .ifCond .eq 15, 3, 0, 0, 0)) (k_eq' hc1) ?_
    refine mEnds.stp 4 (pc' := 18) (l' := [some (.ref 10), some (.int x1), some (.int x2), none]) (st' := [.long (4 : Int64), .long (0 : Int64), .long x2.toInt64]) (fun _ => rfl) ?_
    obtain ⟨v2, hv2, hf⟩ := ob hf
    refine t_cs (as := [.long x2.toInt64, .long (0 : Int64), .long (4 : Int64)]) (st := []) (Or.inl rfl) (rfl : mfetch 154 18 = some (18, .invokestatic 49, 3, 111, 0, 0)) rfl rfl rfl ((ok_M_in hv2).deep 4) ?_
    by_cases hc2 : v2 = 0
    · rw [if_pos hc2] at hf
      refine t_jF (rfl : mfetch 154 21 = some (21, .ifCond .ne 5, 3, 0, 0, 0)) (k_ne' hc2) ?_
      refine mEnds.stp 1 (pc' := 25) (l' := [some (.ref 10), some (.int x1), some (.int x2), none]) (st' := [.int (-1)]) (fun _ => rfl) ?_
      exact mEnds.rti (Option.some.inj hf) (fun _ => rfl)
    · rw [if_neg hc2] at hf
      refine t_jT (t := 26) (rfl : mfetch 154 21 = some (21, .ifCond .ne 5, 3, 0, 0, 0)) rfl (k_ne hc2) ?_
      refine mEnds.stp 3 (pc' := 29) (l' := [some (.ref 10), some (.int x1), some (.int x2), none]) (st' := [.int x1, .int (nI 0), .ref 10]) (fun _ => rfl) ?_
      obtain ⟨v3, hv3, hf⟩ := ob hf
      refine t_cv (as := [.int (nI 0), .int x1]) (st := []) (rfl : mfetch 154 29 = some (29, .invokevirtual 215, 3, 153, 0, 0)) rfl rfl rfl rfl rfl (ok_M_hoursGo hv3) ?_
      refine mEnds.stp 2 (pc' := 34) (l' := [some (.ref 10), some (.int x1), some (.int x2), some (.int v3.1)]) (st' := [.int x2]) (fun _ => rfl) ?_
      by_cases hc3 : x2 = nI 0
      · rw [if_pos hc3] at hf
        refine t_sw hc3 (fun _ _ _ => rfl) (t := 64) ?_
        refine mEnds.stp 1 (pc' := 65) (l' := [some (.ref 10), some (.int x1), some (.int x2), some (.int v3.1)]) (st' := [.int v3.1]) (fun _ => rfl) ?_
        exact mEnds.rti (Option.some.inj hf) (fun _ => rfl)
      · rw [if_neg hc3] at hf
        by_cases hc4 : x2 = nI 1
        · rw [if_pos hc4] at hf
          refine t_sw hc4 (fun _ _ _ => rfl) (t := 66) ?_
          refine mEnds.stp 1 (pc' := 67) (l' := [some (.ref 10), some (.int x1), some (.int x2), some (.int v3.1)]) (st' := [.ref 10]) (fun _ => rfl) ?_
          refine t_gr (rfl : mfetch 154 67 = some (67, .getfield 7, 3, 5, 0, 0)) rfl rfl ?_
          refine mEnds.stp 1 (pc' := 73) (l' := [some (.ref 10), some (.int x1), some (.int x2), some (.int v3.1)]) (st' := [.int (nI 259), .ref 11]) (fun _ => rfl) ?_
          obtain ⟨j1, hj1, hf⟩ := ob hf
          refine t_ia (rfl : mfetch 154 73 = some (73, .iaload, 1, 0, 0, 0)) rfl rfl hj1 ?_
          refine mEnds.stp 1 (pc' := 75) (l' := [some (.ref 10), some (.int x1), some (.int x2), some (.int v3.1)]) (st' := [.ref 10, .int (v3.2 11 j1)]) (fun _ => rfl) ?_
          refine t_gr (rfl : mfetch 154 75 = some (75, .getfield 7, 3, 5, 0, 0)) rfl rfl ?_
          refine mEnds.stp 1 (pc' := 80) (l' := [some (.ref 10), some (.int x1), some (.int x2), some (.int v3.1)]) (st' := [.int (nI 51), .ref 11, .int (v3.2 11 j1)]) (fun _ => rfl) ?_
          obtain ⟨j2, hj2, hf⟩ := ob hf
          refine t_ia (rfl : mfetch 154 80 = some (80, .iaload, 1, 0, 0, 0)) rfl rfl hj2 ?_
          refine mEnds.stp 1 (pc' := 82) (l' := [some (.ref 10), some (.int x1), some (.int x2), some (.int v3.1)]) (st' := [.int ((v3.2 11 j1) - (v3.2 11 j2))]) (fun _ => rfl) ?_
          exact mEnds.rti (Option.some.inj hf) (fun _ => rfl)
        · rw [if_neg hc4] at hf
          by_cases hc5 : x2 = nI 2
          · rw [if_pos hc5] at hf
            refine t_sw hc5 (fun _ _ _ => rfl) (t := 83) ?_
            refine mEnds.stp 2 (pc' := 87) (l' := [some (.ref 10), some (.int x1), some (.int x2), some (.int v3.1)]) (st' := [.int (nI 208), .ref 10]) (fun _ => rfl) ?_
            obtain ⟨v4, hv4, hf⟩ := ob hf
            refine t_cv (as := [.int (nI 208)]) (st := []) (rfl : mfetch 154 87 = some (87, .invokevirtual 161, 3, 135, 0, 0)) rfl rfl rfl rfl rfl ((ok_M_warmthOn hv4).deep 4) ?_
            exact mEnds.rti (Option.some.inj hf) (fun _ => rfl)
          · rw [if_neg hc5] at hf
            by_cases hc6 : x2 = nI 3
            · rw [if_pos hc6] at hf
              refine t_sw hc6 (fun _ _ _ => rfl) (t := 91) ?_
              refine mEnds.stp 1 (pc' := 92) (l' := [some (.ref 10), some (.int x1), some (.int x2), some (.int v3.1)]) (st' := [.ref 10]) (fun _ => rfl) ?_
              refine t_gi (rfl : mfetch 154 92 = some (92, .getfield 207, 3, 5, 19, 0)) rfl rfl ?_
              exact mEnds.rti (Option.some.inj hf) (fun _ => rfl)
            · rw [if_neg hc6] at hf
              refine t_swD (t := 96) (rfl : mfetch 154 34 = some (34, .tableswitch 62 0 3 #[30, 32, 49, 57], 30, 0, 0, 0)) rfl (sw_out (fun k hk => match k, hk with | 0, _ => hc3 | 1, _ => hc4 | 2, _ => hc5 | 3, _ => hc6 | k + 4, hk => absurd hk (by omega))) ?_
              refine mEnds.stp 2 (pc' := 100) (l' := [some (.ref 10), some (.int x1), some (.int x2), some (.int v3.1)]) (st' := [.int (nI 208), .ref 10]) (fun _ => rfl) ?_
              obtain ⟨v5, hv5, hf⟩ := ob hf
              refine t_cv (as := [.int (nI 208)]) (st := []) (rfl : mfetch 154 100 = some (100, .invokevirtual 164, 3, 136, 0, 0)) rfl rfl rfl rfl rfl ((ok_M_onOn hv5).deep 4) ?_
              exact mEnds.rti (Option.some.inj hf) (fun _ => rfl)
def M_ahead (x1 : Int32) (x2 : Int32) (x3 : Int32) (s : sg) : Option (Int32 × sg) :=
  (M_isRoom x1 s).bind fun v1 =>
  if v1 = 0 then
    some ((-1), s)
  else
    (M_in x2.toInt64 (0 : Int64) (60 : Int64) s).bind fun v2 =>
    if v2 = 0 then
      some ((-1), s)
    else
      (M_in x3.toInt64 (0 : Int64) (1 : Int64) s).bind fun v3 =>
      if v3 = 0 then
        some ((-1), s)
      else
        (M_hoursGo (nI 0) x2 s).bind fun v4 =>
        if x3 = 0 then
          (midx ((nI 208) + x1) 312).bind fun j2 =>
          some (v4.2 11 j2, v4.2)
        else
          (midx ((nI 238) + x1) 312).bind fun j1 =>
          some (v4.2 11 j1, v4.2)
set_option maxRecDepth 100000 in
theorem ok_M_ahead {x1 : Int32} {x2 : Int32} {x3 : Int32} {s : sg} {rv : (Int32 × sg)} (hf : M_ahead x1 x2 x3 s = some rv) : mEnds [] 5 155 (0, [some (.ref 10), some (.int x1), some (.int x2), some (.int x3)], [], hp shM s, 0, 0) (some (.int rv.1), hp shM rv.2, 0, 0) := by
  unfold M_ahead at hf
  refine mEnds.stp 2 (pc' := 2) (l' := [some (.ref 10), some (.int x1), some (.int x2), some (.int x3)]) (st' := [.int x1, .ref 10]) (fun _ => rfl) ?_
  obtain ⟨v1, hv1, hf⟩ := ob hf
  refine t_cv (as := [.int x1]) (st := []) (rfl : mfetch 155 2 = some (2, .invokevirtual 167, 3, 126, 0, 0)) rfl rfl rfl rfl rfl ((ok_M_isRoom hv1).deep 3) ?_
  by_cases hc1 : v1 = 0
  · rw [if_pos hc1] at hf
    refine t_jT (t := 30) (rfl : mfetch 155 5 = some (5, .ifCond .eq 25, 3, 0, 0, 0)) rfl (k_eq hc1) ?_
    refine mEnds.stp 1 (pc' := 31) (l' := [some (.ref 10), some (.int x1), some (.int x2), some (.int x3)]) (st' := [.int (-1)]) (fun _ => rfl) ?_
    exact mEnds.rti (Option.some.inj hf) (fun _ => rfl)
  · rw [if_neg hc1] at hf
    refine t_jF (rfl : mfetch 155 5 = some (5, .ifCond .eq 25, 3, 0, 0, 0)) (k_eq' hc1) ?_
    refine mEnds.stp 4 (pc' := 14) (l' := [some (.ref 10), some (.int x1), some (.int x2), some (.int x3)]) (st' := [.long (60 : Int64), .long (0 : Int64), .long x2.toInt64]) (fun _ => rfl) ?_
    obtain ⟨v2, hv2, hf⟩ := ob hf
    refine t_cs (as := [.long x2.toInt64, .long (0 : Int64), .long (60 : Int64)]) (st := []) (Or.inl rfl) (rfl : mfetch 155 14 = some (14, .invokestatic 49, 3, 111, 0, 0)) rfl rfl rfl ((ok_M_in hv2).deep 4) ?_
    by_cases hc2 : v2 = 0
    · rw [if_pos hc2] at hf
      refine t_jT (t := 30) (rfl : mfetch 155 17 = some (17, .ifCond .eq 13, 3, 0, 0, 0)) rfl (k_eq hc2) ?_
      refine mEnds.stp 1 (pc' := 31) (l' := [some (.ref 10), some (.int x1), some (.int x2), some (.int x3)]) (st' := [.int (-1)]) (fun _ => rfl) ?_
      exact mEnds.rti (Option.some.inj hf) (fun _ => rfl)
    · rw [if_neg hc2] at hf
      refine t_jF (rfl : mfetch 155 17 = some (17, .ifCond .eq 13, 3, 0, 0, 0)) (k_eq' hc2) ?_
      refine mEnds.stp 4 (pc' := 24) (l' := [some (.ref 10), some (.int x1), some (.int x2), some (.int x3)]) (st' := [.long (1 : Int64), .long (0 : Int64), .long x3.toInt64]) (fun _ => rfl) ?_
      obtain ⟨v3, hv3, hf⟩ := ob hf
      refine t_cs (as := [.long x3.toInt64, .long (0 : Int64), .long (1 : Int64)]) (st := []) (Or.inl rfl) (rfl : mfetch 155 24 = some (24, .invokestatic 49, 3, 111, 0, 0)) rfl rfl rfl ((ok_M_in hv3).deep 4) ?_
      by_cases hc3 : v3 = 0
      · rw [if_pos hc3] at hf
        refine t_jF (rfl : mfetch 155 27 = some (27, .ifCond .ne 5, 3, 0, 0, 0)) (k_ne' hc3) ?_
        refine mEnds.stp 1 (pc' := 31) (l' := [some (.ref 10), some (.int x1), some (.int x2), some (.int x3)]) (st' := [.int (-1)]) (fun _ => rfl) ?_
        exact mEnds.rti (Option.some.inj hf) (fun _ => rfl)
      · rw [if_neg hc3] at hf
        refine t_jT (t := 32) (rfl : mfetch 155 27 = some (27, .ifCond .ne 5, 3, 0, 0, 0)) rfl (k_ne hc3) ?_
        refine mEnds.stp 3 (pc' := 35) (l' := [some (.ref 10), some (.int x1), some (.int x2), some (.int x3)]) (st' := [.int x2, .int (nI 0), .ref 10]) (fun _ => rfl) ?_
        obtain ⟨v4, hv4, hf⟩ := ob hf
        refine t_cv (as := [.int (nI 0), .int x2]) (st := []) (rfl : mfetch 155 35 = some (35, .invokevirtual 215, 3, 153, 0, 0)) rfl rfl rfl rfl rfl (ok_M_hoursGo hv4) ?_
        refine mEnds.stp 2 (pc' := 40) (l' := [some (.ref 10), some (.int x1), some (.int x2), some (.int x3)]) (st' := [.int x3]) (fun _ => rfl) ?_
        by_cases hc4 : x3 = 0
        · rw [if_pos hc4] at hf
          refine t_jF (rfl : mfetch 155 40 = some (40, .ifCond .ne 16, 3, 0, 0, 0)) (k_ne' hc4) ?_
          refine mEnds.stp 1 (pc' := 44) (l' := [some (.ref 10), some (.int x1), some (.int x2), some (.int x3)]) (st' := [.ref 10]) (fun _ => rfl) ?_
          refine t_gr (rfl : mfetch 155 44 = some (44, .getfield 7, 3, 5, 0, 0)) rfl rfl ?_
          refine mEnds.stp 3 (pc' := 52) (l' := [some (.ref 10), some (.int x1), some (.int x2), some (.int x3)]) (st' := [.int ((nI 208) + x1), .ref 11]) (fun _ => rfl) ?_
          obtain ⟨j2, hj2, hf⟩ := ob hf
          refine t_ia (rfl : mfetch 155 52 = some (52, .iaload, 1, 0, 0, 0)) rfl rfl hj2 ?_
          refine mEnds.stp 1 (pc' := 66) (l' := [some (.ref 10), some (.int x1), some (.int x2), some (.int x3)]) (st' := [.int (v4.2 11 j2)]) (fun _ => rfl) ?_
          exact mEnds.rti (Option.some.inj hf) (fun _ => rfl)
        · rw [if_neg hc4] at hf
          refine t_jT (t := 56) (rfl : mfetch 155 40 = some (40, .ifCond .ne 16, 3, 0, 0, 0)) rfl (k_ne hc4) ?_
          refine mEnds.stp 1 (pc' := 57) (l' := [some (.ref 10), some (.int x1), some (.int x2), some (.int x3)]) (st' := [.ref 10]) (fun _ => rfl) ?_
          refine t_gr (rfl : mfetch 155 57 = some (57, .getfield 7, 3, 5, 0, 0)) rfl rfl ?_
          refine mEnds.stp 3 (pc' := 65) (l' := [some (.ref 10), some (.int x1), some (.int x2), some (.int x3)]) (st' := [.int ((nI 238) + x1), .ref 11]) (fun _ => rfl) ?_
          obtain ⟨j1, hj1, hf⟩ := ob hf
          refine t_ia (rfl : mfetch 155 65 = some (65, .iaload, 1, 0, 0, 0)) rfl rfl hj1 ?_
          exact mEnds.rti (Option.some.inj hf) (fun _ => rfl)
end Q31d
section Q31e
def M_cold_32 (x1 : Int32) (x2 : Int32) : Nat → Int32 → sg → Option (Int32 × sg)
  | 0, _, _ => none
  | fu + 1, x3, s =>
  if nI 60 < x3 then
    some ((-4), s)
  else
    (midx ((nI 208) + x1) 312).bind fun j1 =>
    if x2 < s 11 j1 then
      (M_goesOn (nI 208) s).bind fun s1 =>
      M_cold_32 x1 x2 fu (x3 + (nI 1)) s1
    else
      some (x3, s)
set_option maxRecDepth 100000 in
theorem ok_M_cold_32 {x1 : Int32} {x2 : Int32} : ∀ (fu : Nat) (x3 : Int32) (s : sg) (rv : (Int32 × sg)), M_cold_32 x1 x2 fu x3 s = some rv → mEnds [] 4 156 (32, [some (.ref 10), some (.int x1), some (.int x2), some (.int x3)], [], hp shM s, 0, 0) (some (.int rv.1), hp shM rv.2, 0, 0)
  | 0, _, _, _, hf => by cases hf
  | fu + 1, x3, s, rv, hf => by
    rw [M_cold_32] at hf
    refine mEnds.stp 2 (pc' := 35) (l' := [some (.ref 10), some (.int x1), some (.int x2), some (.int x3)]) (st' := [.int (nI 60), .int x3]) (fun _ => rfl) ?_
    by_cases hc1 : nI 60 < x3
    · rw [if_pos hc1] at hf
      refine t_cT (t := 67) (rfl : mfetch 156 35 = some (35, .if_icmp .gt 32, 3, 0, 0, 0)) rfl (k_gt hc1) ?_
      refine mEnds.stp 1 (pc' := 69) (l' := [some (.ref 10), some (.int x1), some (.int x2), some (.int x3)]) (st' := [.int (-4)]) (fun _ => rfl) ?_
      exact mEnds.rti (Option.some.inj hf) (fun _ => rfl)
    · rw [if_neg hc1] at hf
      refine t_cF (rfl : mfetch 156 35 = some (35, .if_icmp .gt 32, 3, 0, 0, 0)) (k_gt' hc1) ?_
      refine mEnds.stp 1 (pc' := 39) (l' := [some (.ref 10), some (.int x1), some (.int x2), some (.int x3)]) (st' := [.ref 10]) (fun _ => rfl) ?_
      refine t_gr (rfl : mfetch 156 39 = some (39, .getfield 7, 3, 5, 0, 0)) rfl rfl ?_
      refine mEnds.stp 3 (pc' := 47) (l' := [some (.ref 10), some (.int x1), some (.int x2), some (.int x3)]) (st' := [.int ((nI 208) + x1), .ref 11]) (fun _ => rfl) ?_
      obtain ⟨j1, hj1, hf⟩ := ob hf
      refine t_ia (rfl : mfetch 156 47 = some (47, .iaload, 1, 0, 0, 0)) rfl rfl hj1 ?_
      refine mEnds.stp 1 (pc' := 49) (l' := [some (.ref 10), some (.int x1), some (.int x2), some (.int x3)]) (st' := [.int x2, .int (s 11 j1)]) (fun _ => rfl) ?_
      by_cases hc2 : x2 < s 11 j1
      · rw [if_pos hc2] at hf
        refine t_cT (t := 54) (rfl : mfetch 156 49 = some (49, .if_icmp .gt 5, 3, 0, 0, 0)) rfl (k_gt hc2) ?_
        refine mEnds.stp 2 (pc' := 58) (l' := [some (.ref 10), some (.int x1), some (.int x2), some (.int x3)]) (st' := [.int (nI 208), .ref 10]) (fun _ => rfl) ?_
        obtain ⟨s1, hs1, hf⟩ := ob hf
        refine t_cv (as := [.int (nI 208)]) (st := []) (rfl : mfetch 156 58 = some (58, .invokevirtual 198, 3, 134, 0, 0)) rfl rfl rfl rfl rfl (ok_M_goesOn hs1) ?_
        refine mEnds.stp 2 (pc' := 32) (l' := [some (.ref 10), some (.int x1), some (.int x2), some (.int (x3 + (nI 1)))]) (st' := []) (fun _ => rfl) ?_
        refine mEnds.cut (l := [some (.ref 10), some (.int x1), some (.int x2), some (.int (x3 + (nI 1)))]) ⟨rfl, ⟨rfl, ⟨rfl, ⟨rfl, trivial⟩⟩⟩⟩ ?_
        exact ok_M_cold_32 fu (x3 + (nI 1)) s1 _ hf
      · rw [if_neg hc2] at hf
        refine t_cF (rfl : mfetch 156 49 = some (49, .if_icmp .gt 5, 3, 0, 0, 0)) (k_gt' hc2) ?_
        refine mEnds.stp 1 (pc' := 53) (l' := [some (.ref 10), some (.int x1), some (.int x2), some (.int x3)]) (st' := [.int x3]) (fun _ => rfl) ?_
        exact mEnds.rti (Option.some.inj hf) (fun _ => rfl)
def M_cold (x1 : Int32) (x2 : Int32) (s : sg) : Option (Int32 × sg) :=
  (M_isRoom x1 s).bind fun v1 =>
  if v1 = 0 then
    some ((-1), s)
  else
    (M_in x2.toInt64 (0 : Int64) (99 : Int64) s).bind fun v2 =>
    if v2 = 0 then
      some ((-1), s)
    else
      (M_copies (nI 0) (nI 208) s).bind fun s1 =>
      M_cold_32 x1 x2 FU (nI 0) s1
set_option maxRecDepth 100000 in
theorem ok_M_cold {x1 : Int32} {x2 : Int32} {s : sg} {rv : (Int32 × sg)} (hf : M_cold x1 x2 s = some rv) : mEnds [] 4 156 (0, [some (.ref 10), some (.int x1), some (.int x2), none], [], hp shM s, 0, 0) (some (.int rv.1), hp shM rv.2, 0, 0) := by
  unfold M_cold at hf
  refine mEnds.stp 2 (pc' := 2) (l' := [some (.ref 10), some (.int x1), some (.int x2), none]) (st' := [.int x1, .ref 10]) (fun _ => rfl) ?_
  obtain ⟨v1, hv1, hf⟩ := ob hf
  refine t_cv (as := [.int x1]) (st := []) (rfl : mfetch 156 2 = some (2, .invokevirtual 167, 3, 126, 0, 0)) rfl rfl rfl rfl rfl ((ok_M_isRoom hv1).deep 2) ?_
  by_cases hc1 : v1 = 0
  · rw [if_pos hc1] at hf
    refine t_jT (t := 20) (rfl : mfetch 156 5 = some (5, .ifCond .eq 15, 3, 0, 0, 0)) rfl (k_eq hc1) ?_
    refine mEnds.stp 1 (pc' := 21) (l' := [some (.ref 10), some (.int x1), some (.int x2), none]) (st' := [.int (-1)]) (fun _ => rfl) ?_
    exact mEnds.rti (Option.some.inj hf) (fun _ => rfl)
  · rw [if_neg hc1] at hf
    refine t_jF (rfl : mfetch 156 5 = some (5, .ifCond .eq 15, 3, 0, 0, 0)) (k_eq' hc1) ?_
    refine mEnds.stp 4 (pc' := 14) (l' := [some (.ref 10), some (.int x1), some (.int x2), none]) (st' := [.long (99 : Int64), .long (0 : Int64), .long x2.toInt64]) (fun _ => rfl) ?_
    obtain ⟨v2, hv2, hf⟩ := ob hf
    refine t_cs (as := [.long x2.toInt64, .long (0 : Int64), .long (99 : Int64)]) (st := []) (Or.inl rfl) (rfl : mfetch 156 14 = some (14, .invokestatic 49, 3, 111, 0, 0)) rfl rfl rfl ((ok_M_in hv2).deep 3) ?_
    by_cases hc2 : v2 = 0
    · rw [if_pos hc2] at hf
      refine t_jF (rfl : mfetch 156 17 = some (17, .ifCond .ne 5, 3, 0, 0, 0)) (k_ne' hc2) ?_
      refine mEnds.stp 1 (pc' := 21) (l' := [some (.ref 10), some (.int x1), some (.int x2), none]) (st' := [.int (-1)]) (fun _ => rfl) ?_
      exact mEnds.rti (Option.some.inj hf) (fun _ => rfl)
    · rw [if_neg hc2] at hf
      refine t_jT (t := 22) (rfl : mfetch 156 17 = some (17, .ifCond .ne 5, 3, 0, 0, 0)) rfl (k_ne hc2) ?_
      refine mEnds.stp 3 (pc' := 27) (l' := [some (.ref 10), some (.int x1), some (.int x2), none]) (st' := [.int (nI 208), .int (nI 0), .ref 10]) (fun _ => rfl) ?_
      obtain ⟨s1, hs1, hf⟩ := ob hf
      refine t_cv (as := [.int (nI 0), .int (nI 208)]) (st := []) (rfl : mfetch 156 27 = some (27, .invokevirtual 201, 3, 152, 0, 0)) rfl rfl rfl rfl rfl ((ok_M_copies hs1).deep 3) ?_
      refine mEnds.stp 2 (pc' := 32) (l' := [some (.ref 10), some (.int x1), some (.int x2), some (.int (nI 0))]) (st' := []) (fun _ => rfl) ?_
      refine mEnds.cut (l := [some (.ref 10), some (.int x1), some (.int x2), some (.int (nI 0))]) ⟨rfl, ⟨rfl, ⟨rfl, ⟨rfl, trivial⟩⟩⟩⟩ ?_
      exact ok_M_cold_32 FU (nI 0) s1 _ hf
def M_again_38 (k10 : Int32 → sg → Option (Int32 × sg)) (x1 : Int32) : Nat → Int32 → Int32 → sg → Option (Int32 × sg)
  | 0, _, _, _ => none
  | fu + 1, x2, x3, s =>
  if x3 < s 10 1 then
    if x2 = 0 then
      M_again_38 k10 x1 fu (nI 0) (x3 + (nI 1)) s
    else
      (midx ((nI 208) + x3) 312).bind fun j1 =>
      (midx x3 312).bind fun j2 =>
      if s 11 j1 = s 11 j2 then
        (midx ((nI 238) + x3) 312).bind fun j3 =>
        (midx ((nI 30) + x3) 312).bind fun j4 =>
        if s 11 j3 = s 11 j4 then
          M_again_38 k10 x1 fu (nI 1) (x3 + (nI 1)) s
        else
          M_again_38 k10 x1 fu (nI 0) (x3 + (nI 1)) s
      else
        M_again_38 k10 x1 fu (nI 0) (x3 + (nI 1)) s
  else
    if x2 = 0 then
      k10 (x1 + (nI 1)) s
    else
      some (x1, s)
set_option maxRecDepth 100000 in
theorem ok_M_again_38 {k10 : Int32 → sg → Option (Int32 × sg)} {x1 : Int32} (hk10 : ∀ (x1 : Int32) (s : sg) (rv : (Int32 × sg)), k10 x1 s = some rv → mEnds [] 4 157 (10, [some (.ref 10), some (.int x1), none, none], [], hp shM s, 0, 0) (some (.int rv.1), hp shM rv.2, 0, 0)) : ∀ (fu : Nat) (x2 : Int32) (x3 : Int32) (s : sg) (rv : (Int32 × sg)), M_again_38 k10 x1 fu x2 x3 s = some rv → mEnds [] 4 157 (38, [some (.ref 10), some (.int x1), some (.int x2), some (.int x3)], [], hp shM s, 0, 0) (some (.int rv.1), hp shM rv.2, 0, 0)
  | 0, _, _, _, _, hf => by cases hf
  | fu + 1, x2, x3, s, rv, hf => by
    rw [M_again_38] at hf
    refine mEnds.stp 2 (pc' := 40) (l' := [some (.ref 10), some (.int x1), some (.int x2), some (.int x3)]) (st' := [.ref 10, .int x3]) (fun _ => rfl) ?_
    refine t_gi (rfl : mfetch 157 40 = some (40, .getfield 139, 3, 5, 1, 0)) rfl rfl ?_
    by_cases hc1 : x3 < s 10 1
    · rw [if_pos hc1] at hf
      refine t_cF (rfl : mfetch 157 43 = some (43, .if_icmp .ge 60, 3, 0, 0, 0)) (k_ge' hc1) ?_
      refine mEnds.stp 1 (pc' := 47) (l' := [some (.ref 10), some (.int x1), some (.int x2), some (.int x3)]) (st' := [.int x2]) (fun _ => rfl) ?_
      by_cases hc3 : x2 = 0
      · rw [if_pos hc3] at hf
        refine t_jT (t := 95) (rfl : mfetch 157 47 = some (47, .ifCond .eq 48, 3, 0, 0, 0)) rfl (k_eq hc3) ?_
        refine mEnds.stp 4 (pc' := 38) (l' := [some (.ref 10), some (.int x1), some (.int (nI 0)), some (.int (x3 + (nI 1)))]) (st' := []) (fun _ => rfl) ?_
        refine mEnds.cut (l := [some (.ref 10), some (.int x1), some (.int (nI 0)), some (.int (x3 + (nI 1)))]) ⟨rfl, ⟨rfl, ⟨rfl, ⟨rfl, trivial⟩⟩⟩⟩ ?_
        exact ok_M_again_38 hk10 fu (nI 0) (x3 + (nI 1)) s _ hf
      · rw [if_neg hc3] at hf
        refine t_jF (rfl : mfetch 157 47 = some (47, .ifCond .eq 48, 3, 0, 0, 0)) (k_eq' hc3) ?_
        refine mEnds.stp 1 (pc' := 51) (l' := [some (.ref 10), some (.int x1), some (.int x2), some (.int x3)]) (st' := [.ref 10]) (fun _ => rfl) ?_
        refine t_gr (rfl : mfetch 157 51 = some (51, .getfield 7, 3, 5, 0, 0)) rfl rfl ?_
        refine mEnds.stp 3 (pc' := 59) (l' := [some (.ref 10), some (.int x1), some (.int x2), some (.int x3)]) (st' := [.int ((nI 208) + x3), .ref 11]) (fun _ => rfl) ?_
        obtain ⟨j1, hj1, hf⟩ := ob hf
        refine t_ia (rfl : mfetch 157 59 = some (59, .iaload, 1, 0, 0, 0)) rfl rfl hj1 ?_
        refine mEnds.stp 1 (pc' := 61) (l' := [some (.ref 10), some (.int x1), some (.int x2), some (.int x3)]) (st' := [.ref 10, .int (s 11 j1)]) (fun _ => rfl) ?_
        refine t_gr (rfl : mfetch 157 61 = some (61, .getfield 7, 3, 5, 0, 0)) rfl rfl ?_
        refine mEnds.stp 1 (pc' := 65) (l' := [some (.ref 10), some (.int x1), some (.int x2), some (.int x3)]) (st' := [.int x3, .ref 11, .int (s 11 j1)]) (fun _ => rfl) ?_
        obtain ⟨j2, hj2, hf⟩ := ob hf
        refine t_ia (rfl : mfetch 157 65 = some (65, .iaload, 1, 0, 0, 0)) rfl rfl hj2 ?_
        by_cases hc4 : s 11 j1 = s 11 j2
        · rw [if_pos hc4] at hf
          refine t_cF (rfl : mfetch 157 66 = some (66, .if_icmp .ne 29, 3, 0, 0, 0)) (k_ne' hc4) ?_
          refine mEnds.stp 1 (pc' := 70) (l' := [some (.ref 10), some (.int x1), some (.int x2), some (.int x3)]) (st' := [.ref 10]) (fun _ => rfl) ?_
          refine t_gr (rfl : mfetch 157 70 = some (70, .getfield 7, 3, 5, 0, 0)) rfl rfl ?_
          refine mEnds.stp 3 (pc' := 78) (l' := [some (.ref 10), some (.int x1), some (.int x2), some (.int x3)]) (st' := [.int ((nI 238) + x3), .ref 11]) (fun _ => rfl) ?_
          obtain ⟨j3, hj3, hf⟩ := ob hf
          refine t_ia (rfl : mfetch 157 78 = some (78, .iaload, 1, 0, 0, 0)) rfl rfl hj3 ?_
          refine mEnds.stp 1 (pc' := 80) (l' := [some (.ref 10), some (.int x1), some (.int x2), some (.int x3)]) (st' := [.ref 10, .int (s 11 j3)]) (fun _ => rfl) ?_
          refine t_gr (rfl : mfetch 157 80 = some (80, .getfield 7, 3, 5, 0, 0)) rfl rfl ?_
          refine mEnds.stp 3 (pc' := 87) (l' := [some (.ref 10), some (.int x1), some (.int x2), some (.int x3)]) (st' := [.int ((nI 30) + x3), .ref 11, .int (s 11 j3)]) (fun _ => rfl) ?_
          obtain ⟨j4, hj4, hf⟩ := ob hf
          refine t_ia (rfl : mfetch 157 87 = some (87, .iaload, 1, 0, 0, 0)) rfl rfl hj4 ?_
          by_cases hc5 : s 11 j3 = s 11 j4
          · rw [if_pos hc5] at hf
            refine t_cF (rfl : mfetch 157 88 = some (88, .if_icmp .ne 7, 3, 0, 0, 0)) (k_ne' hc5) ?_
            refine mEnds.stp 5 (pc' := 38) (l' := [some (.ref 10), some (.int x1), some (.int (nI 1)), some (.int (x3 + (nI 1)))]) (st' := []) (fun _ => rfl) ?_
            refine mEnds.cut (l := [some (.ref 10), some (.int x1), some (.int (nI 1)), some (.int (x3 + (nI 1)))]) ⟨rfl, ⟨rfl, ⟨rfl, ⟨rfl, trivial⟩⟩⟩⟩ ?_
            exact ok_M_again_38 hk10 fu (nI 1) (x3 + (nI 1)) s _ hf
          · rw [if_neg hc5] at hf
            refine t_cT (t := 95) (rfl : mfetch 157 88 = some (88, .if_icmp .ne 7, 3, 0, 0, 0)) rfl (k_ne hc5) ?_
            refine mEnds.stp 4 (pc' := 38) (l' := [some (.ref 10), some (.int x1), some (.int (nI 0)), some (.int (x3 + (nI 1)))]) (st' := []) (fun _ => rfl) ?_
            refine mEnds.cut (l := [some (.ref 10), some (.int x1), some (.int (nI 0)), some (.int (x3 + (nI 1)))]) ⟨rfl, ⟨rfl, ⟨rfl, ⟨rfl, trivial⟩⟩⟩⟩ ?_
            exact ok_M_again_38 hk10 fu (nI 0) (x3 + (nI 1)) s _ hf
        · rw [if_neg hc4] at hf
          refine t_cT (t := 95) (rfl : mfetch 157 66 = some (66, .if_icmp .ne 29, 3, 0, 0, 0)) rfl (k_ne hc4) ?_
          refine mEnds.stp 4 (pc' := 38) (l' := [some (.ref 10), some (.int x1), some (.int (nI 0)), some (.int (x3 + (nI 1)))]) (st' := []) (fun _ => rfl) ?_
          refine mEnds.cut (l := [some (.ref 10), some (.int x1), some (.int (nI 0)), some (.int (x3 + (nI 1)))]) ⟨rfl, ⟨rfl, ⟨rfl, ⟨rfl, trivial⟩⟩⟩⟩ ?_
          exact ok_M_again_38 hk10 fu (nI 0) (x3 + (nI 1)) s _ hf
    · rw [if_neg hc1] at hf
      refine t_cT (t := 103) (rfl : mfetch 157 43 = some (43, .if_icmp .ge 60, 3, 0, 0, 0)) rfl (k_ge hc1) ?_
      refine mEnds.stp 1 (pc' := 104) (l' := [some (.ref 10), some (.int x1), some (.int x2), some (.int x3)]) (st' := [.int x2]) (fun _ => rfl) ?_
      by_cases hc2 : x2 = 0
      · rw [if_pos hc2] at hf
        refine t_jT (t := 109) (rfl : mfetch 157 104 = some (104, .ifCond .eq 5, 3, 0, 0, 0)) rfl (k_eq hc2) ?_
        refine mEnds.stp 2 (pc' := 10) (l' := [some (.ref 10), some (.int (x1 + (nI 1))), some (.int x2), some (.int x3)]) (st' := []) (fun _ => rfl) ?_
        refine mEnds.cut (l := [some (.ref 10), some (.int (x1 + (nI 1))), none, none]) ⟨rfl, ⟨rfl, trivial⟩⟩ ?_
        exact hk10 (x1 + (nI 1)) s _ hf
      · rw [if_neg hc2] at hf
        refine t_jF (rfl : mfetch 157 104 = some (104, .ifCond .eq 5, 3, 0, 0, 0)) (k_eq' hc2) ?_
        refine mEnds.stp 1 (pc' := 108) (l' := [some (.ref 10), some (.int x1), some (.int x2), some (.int x3)]) (st' := [.int x1]) (fun _ => rfl) ?_
        exact mEnds.rti (Option.some.inj hf) (fun _ => rfl)
def M_again_10 : Nat → Int32 → sg → Option (Int32 × sg)
  | 0, _, _ => none
  | fu + 1, x1, s =>
  if nI 56 < x1 then
    some ((-4), s)
  else
    (M_goesOn (nI 208) s).bind fun s1 =>
    if x1 - x1 / (nI 8) * (nI 8) = 0 then
      M_again_38 (M_again_10 fu) x1 FU (nI 1) (nI 0) s1
    else
      M_again_38 (M_again_10 fu) x1 FU (nI 0) (nI 0) s1
set_option maxRecDepth 100000 in
theorem ok_M_again_10 : ∀ (fu : Nat) (x1 : Int32) (s : sg) (rv : (Int32 × sg)), M_again_10 fu x1 s = some rv → mEnds [] 4 157 (10, [some (.ref 10), some (.int x1), none, none], [], hp shM s, 0, 0) (some (.int rv.1), hp shM rv.2, 0, 0)
  | 0, _, _, _, hf => by cases hf
  | fu + 1, x1, s, rv, hf => by
    rw [M_again_10] at hf
    refine mEnds.stp 2 (pc' := 13) (l' := [some (.ref 10), some (.int x1), none, none]) (st' := [.int (nI 56), .int x1]) (fun _ => rfl) ?_
    by_cases hc1 : nI 56 < x1
    · rw [if_pos hc1] at hf
      refine t_cT (t := 115) (rfl : mfetch 157 13 = some (13, .if_icmp .gt 102, 3, 0, 0, 0)) rfl (k_gt hc1) ?_
      refine mEnds.stp 1 (pc' := 117) (l' := [some (.ref 10), some (.int x1), none, none]) (st' := [.int (-4)]) (fun _ => rfl) ?_
      exact mEnds.rti (Option.some.inj hf) (fun _ => rfl)
    · rw [if_neg hc1] at hf
      refine t_cF (rfl : mfetch 157 13 = some (13, .if_icmp .gt 102, 3, 0, 0, 0)) (k_gt' hc1) ?_
      refine mEnds.stp 2 (pc' := 20) (l' := [some (.ref 10), some (.int x1), none, none]) (st' := [.int (nI 208), .ref 10]) (fun _ => rfl) ?_
      obtain ⟨s1, hs1, hf⟩ := ob hf
      refine t_cv (as := [.int (nI 208)]) (st := []) (rfl : mfetch 157 20 = some (20, .invokevirtual 198, 3, 134, 0, 0)) rfl rfl rfl rfl rfl (ok_M_goesOn hs1) ?_
      refine mEnds.stp 3 (pc' := 27) (l' := [some (.ref 10), some (.int x1), none, none]) (st' := [.int (x1 - x1 / (nI 8) * (nI 8))]) (fun _ => rfl) ?_
      by_cases hc2 : x1 - x1 / (nI 8) * (nI 8) = 0
      · rw [if_pos hc2] at hf
        refine t_jF (rfl : mfetch 157 27 = some (27, .ifCond .ne 7, 3, 0, 0, 0)) (k_ne' hc2) ?_
        refine mEnds.stp 5 (pc' := 38) (l' := [some (.ref 10), some (.int x1), some (.int (nI 1)), some (.int (nI 0))]) (st' := []) (fun _ => rfl) ?_
        refine mEnds.cut (l := [some (.ref 10), some (.int x1), some (.int (nI 1)), some (.int (nI 0))]) ⟨rfl, ⟨rfl, ⟨rfl, ⟨rfl, trivial⟩⟩⟩⟩ ?_
        exact ok_M_again_38 (ok_M_again_10 fu) FU (nI 1) (nI 0) s1 _ hf
      · rw [if_neg hc2] at hf
        refine t_jT (t := 34) (rfl : mfetch 157 27 = some (27, .ifCond .ne 7, 3, 0, 0, 0)) rfl (k_ne hc2) ?_
        refine mEnds.stp 4 (pc' := 38) (l' := [some (.ref 10), some (.int x1), some (.int (nI 0)), some (.int (nI 0))]) (st' := []) (fun _ => rfl) ?_
        refine mEnds.cut (l := [some (.ref 10), some (.int x1), some (.int (nI 0)), some (.int (nI 0))]) ⟨rfl, ⟨rfl, ⟨rfl, ⟨rfl, trivial⟩⟩⟩⟩ ?_
        exact ok_M_again_38 (ok_M_again_10 fu) FU (nI 0) (nI 0) s1 _ hf
def M_again (s : sg) : Option (Int32 × sg) :=
  (M_copies (nI 0) (nI 208) s).bind fun s1 =>
  M_again_10 FU (nI 1) s1
set_option maxRecDepth 100000 in
theorem ok_M_again {s : sg} {rv : (Int32 × sg)} (hf : M_again s = some rv) : mEnds [] 4 157 (0, [some (.ref 10), none, none, none], [], hp shM s, 0, 0) (some (.int rv.1), hp shM rv.2, 0, 0) := by
  unfold M_again at hf
  refine mEnds.stp 3 (pc' := 5) (l' := [some (.ref 10), none, none, none]) (st' := [.int (nI 208), .int (nI 0), .ref 10]) (fun _ => rfl) ?_
  obtain ⟨s1, hs1, hf⟩ := ob hf
  refine t_cv (as := [.int (nI 0), .int (nI 208)]) (st := []) (rfl : mfetch 157 5 = some (5, .invokevirtual 201, 3, 152, 0, 0)) rfl rfl rfl rfl rfl ((ok_M_copies hs1).deep 3) ?_
  refine mEnds.stp 2 (pc' := 10) (l' := [some (.ref 10), some (.int (nI 1)), none, none]) (st' := []) (fun _ => rfl) ?_
  refine mEnds.cut (l := [some (.ref 10), some (.int (nI 1)), none, none]) ⟨rfl, ⟨rfl, trivial⟩⟩ ?_
  exact ok_M_again_10 FU (nI 1) s1 _ hf
def M_keepsWarm_11 (x2 : Int32) (x3 : Int32) (x4 : Int32) : Nat → Int32 → sg → Option (Int32 × sg)
  | 0, _, _ => none
  | fu + 1, x5, s =>
  if x5 < x3 then
    (M_goesOn (nI 208) s).bind fun s1 =>
    (midx ((nI 208) + x2) 312).bind fun j1 =>
    if s1 11 j1 < x4 then
      some (nI 0, s1)
    else
      M_keepsWarm_11 x2 x3 x4 fu (x5 + (nI 1)) s1
  else
    some (nI 1, s)
set_option maxRecDepth 100000 in
theorem ok_M_keepsWarm_11 {x2 : Int32} {x3 : Int32} {x4 : Int32} : ∀ (fu : Nat) (x5 : Int32) (s : sg) (rv : (Int32 × sg)), M_keepsWarm_11 x2 x3 x4 fu x5 s = some rv → mEnds [] 4 158 (11, [some (.ref 10), none, some (.int x2), some (.int x3), some (.int x4), some (.int x5)], [], hp shM s, 0, 0) (some (.int rv.1), hp shM rv.2, 0, 0)
  | 0, _, _, _, hf => by cases hf
  | fu + 1, x5, s, rv, hf => by
    rw [M_keepsWarm_11] at hf
    refine mEnds.stp 2 (pc' := 14) (l' := [some (.ref 10), none, some (.int x2), some (.int x3), some (.int x4), some (.int x5)]) (st' := [.int x3, .int x5]) (fun _ => rfl) ?_
    by_cases hc1 : x5 < x3
    · rw [if_pos hc1] at hf
      refine t_cF (rfl : mfetch 158 14 = some (14, .if_icmp .ge 33, 3, 0, 0, 0)) (k_ge' hc1) ?_
      refine mEnds.stp 2 (pc' := 21) (l' := [some (.ref 10), none, some (.int x2), some (.int x3), some (.int x4), some (.int x5)]) (st' := [.int (nI 208), .ref 10]) (fun _ => rfl) ?_
      obtain ⟨s1, hs1, hf⟩ := ob hf
      refine t_cv (as := [.int (nI 208)]) (st := []) (rfl : mfetch 158 21 = some (21, .invokevirtual 198, 3, 134, 0, 0)) rfl rfl rfl rfl rfl (ok_M_goesOn hs1) ?_
      refine mEnds.stp 1 (pc' := 25) (l' := [some (.ref 10), none, some (.int x2), some (.int x3), some (.int x4), some (.int x5)]) (st' := [.ref 10]) (fun _ => rfl) ?_
      refine t_gr (rfl : mfetch 158 25 = some (25, .getfield 7, 3, 5, 0, 0)) rfl rfl ?_
      refine mEnds.stp 3 (pc' := 33) (l' := [some (.ref 10), none, some (.int x2), some (.int x3), some (.int x4), some (.int x5)]) (st' := [.int ((nI 208) + x2), .ref 11]) (fun _ => rfl) ?_
      obtain ⟨j1, hj1, hf⟩ := ob hf
      refine t_ia (rfl : mfetch 158 33 = some (33, .iaload, 1, 0, 0, 0)) rfl rfl hj1 ?_
      refine mEnds.stp 1 (pc' := 36) (l' := [some (.ref 10), none, some (.int x2), some (.int x3), some (.int x4), some (.int x5)]) (st' := [.int x4, .int (s1 11 j1)]) (fun _ => rfl) ?_
      by_cases hc2 : s1 11 j1 < x4
      · rw [if_pos hc2] at hf
        refine t_cF (rfl : mfetch 158 36 = some (36, .if_icmp .ge 5, 3, 0, 0, 0)) (k_ge' hc2) ?_
        refine mEnds.stp 1 (pc' := 40) (l' := [some (.ref 10), none, some (.int x2), some (.int x3), some (.int x4), some (.int x5)]) (st' := [.int (nI 0)]) (fun _ => rfl) ?_
        exact mEnds.rti (Option.some.inj hf) (fun _ => rfl)
      · rw [if_neg hc2] at hf
        refine t_cT (t := 41) (rfl : mfetch 158 36 = some (36, .if_icmp .ge 5, 3, 0, 0, 0)) rfl (k_ge hc2) ?_
        refine mEnds.stp 2 (pc' := 11) (l' := [some (.ref 10), none, some (.int x2), some (.int x3), some (.int x4), some (.int (x5 + (nI 1)))]) (st' := []) (fun _ => rfl) ?_
        refine mEnds.cut (l := [some (.ref 10), none, some (.int x2), some (.int x3), some (.int x4), some (.int (x5 + (nI 1)))]) ⟨rfl, ⟨rfl, ⟨rfl, ⟨rfl, ⟨rfl, trivial⟩⟩⟩⟩⟩ ?_
        exact ok_M_keepsWarm_11 fu (x5 + (nI 1)) s1 _ hf
    · rw [if_neg hc1] at hf
      refine t_cT (t := 47) (rfl : mfetch 158 14 = some (14, .if_icmp .ge 33, 3, 0, 0, 0)) rfl (k_ge hc1) ?_
      refine mEnds.stp 1 (pc' := 48) (l' := [some (.ref 10), none, some (.int x2), some (.int x3), some (.int x4), some (.int x5)]) (st' := [.int (nI 1)]) (fun _ => rfl) ?_
      exact mEnds.rti (Option.some.inj hf) (fun _ => rfl)
def M_keepsWarm (x1 : Int32) (x2 : Int32) (x3 : Int32) (x4 : Int32) (s : sg) : Option (Int32 × sg) :=
  (M_copies x1 (nI 208) s).bind fun s1 =>
  M_keepsWarm_11 x2 x3 x4 FU (nI 0) s1
set_option maxRecDepth 100000 in
theorem ok_M_keepsWarm {x1 : Int32} {x2 : Int32} {x3 : Int32} {x4 : Int32} {s : sg} {rv : (Int32 × sg)} (hf : M_keepsWarm x1 x2 x3 x4 s = some rv) : mEnds [] 4 158 (0, [some (.ref 10), some (.int x1), some (.int x2), some (.int x3), some (.int x4), none], [], hp shM s, 0, 0) (some (.int rv.1), hp shM rv.2, 0, 0) := by
  unfold M_keepsWarm at hf
  refine mEnds.stp 3 (pc' := 5) (l' := [some (.ref 10), some (.int x1), some (.int x2), some (.int x3), some (.int x4), none]) (st' := [.int (nI 208), .int x1, .ref 10]) (fun _ => rfl) ?_
  obtain ⟨s1, hs1, hf⟩ := ob hf
  refine t_cv (as := [.int x1, .int (nI 208)]) (st := []) (rfl : mfetch 158 5 = some (5, .invokevirtual 201, 3, 152, 0, 0)) rfl rfl rfl rfl rfl ((ok_M_copies hs1).deep 3) ?_
  refine mEnds.stp 2 (pc' := 11) (l' := [some (.ref 10), some (.int x1), some (.int x2), some (.int x3), some (.int x4), some (.int (nI 0))]) (st' := []) (fun _ => rfl) ?_
  refine mEnds.cut (l := [some (.ref 10), none, some (.int x2), some (.int x3), some (.int x4), some (.int (nI 0))]) ⟨rfl, ⟨rfl, ⟨rfl, ⟨rfl, ⟨rfl, trivial⟩⟩⟩⟩⟩ ?_
  exact ok_M_keepsWarm_11 FU (nI 0) s1 _ hf
def M_need_56 (x1 : Int32) (x2 : Int32) (x3 : Int32) : Nat → Int32 → sg → Option (Int32 × sg)
  | 0, _, _ => none
  | fu + 1, x4, s =>
  if nI 99 < x4 then
    some ((-4), s)
  else
    (midx ((nI 284) + x1) 312).bind fun j1 =>
    (some (up s 11 j1 x4)).bind fun s1 =>
    (M_keepsWarm (nI 260) x1 x2 x3 s1).bind fun v1 =>
    if v1.1 = 0 then
      M_need_56 x1 x2 x3 fu (x4 + (nI 1)) v1.2
    else
      some (x4, v1.2)
set_option maxRecDepth 100000 in
theorem ok_M_need_56 {x1 : Int32} {x2 : Int32} {x3 : Int32} : ∀ (fu : Nat) (x4 : Int32) (s : sg) (rv : (Int32 × sg)), M_need_56 x1 x2 x3 fu x4 s = some rv → mEnds [] 5 159 (56, [some (.ref 10), some (.int x1), some (.int x2), some (.int x3), some (.int x4)], [], hp shM s, 0, 0) (some (.int rv.1), hp shM rv.2, 0, 0)
  | 0, _, _, _, hf => by cases hf
  | fu + 1, x4, s, rv, hf => by
    rw [M_need_56] at hf
    refine mEnds.stp 2 (pc' := 60) (l' := [some (.ref 10), some (.int x1), some (.int x2), some (.int x3), some (.int x4)]) (st' := [.int (nI 99), .int x4]) (fun _ => rfl) ?_
    by_cases hc1 : nI 99 < x4
    · rw [if_pos hc1] at hf
      refine t_cT (t := 97) (rfl : mfetch 159 60 = some (60, .if_icmp .gt 37, 3, 0, 0, 0)) rfl (k_gt hc1) ?_
      refine mEnds.stp 1 (pc' := 99) (l' := [some (.ref 10), some (.int x1), some (.int x2), some (.int x3), some (.int x4)]) (st' := [.int (-4)]) (fun _ => rfl) ?_
      exact mEnds.rti (Option.some.inj hf) (fun _ => rfl)
    · rw [if_neg hc1] at hf
      refine t_cF (rfl : mfetch 159 60 = some (60, .if_icmp .gt 37, 3, 0, 0, 0)) (k_gt' hc1) ?_
      refine mEnds.stp 1 (pc' := 64) (l' := [some (.ref 10), some (.int x1), some (.int x2), some (.int x3), some (.int x4)]) (st' := [.ref 10]) (fun _ => rfl) ?_
      refine t_gr (rfl : mfetch 159 64 = some (64, .getfield 7, 3, 5, 0, 0)) rfl rfl ?_
      refine mEnds.stp 4 (pc' := 74) (l' := [some (.ref 10), some (.int x1), some (.int x2), some (.int x3), some (.int x4)]) (st' := [.int x4, .int ((nI 284) + x1), .ref 11]) (fun _ => rfl) ?_
      obtain ⟨j1, hj1, hf⟩ := ob hf
      obtain ⟨s1, hs1, hf⟩ := ob hf
      refine t_is (rfl : mfetch 159 74 = some (74, .iastore, 1, 0, 0, 0)) rfl rfl hj1 hs1 ?_
      refine mEnds.stp 5 (pc' := 82) (l' := [some (.ref 10), some (.int x1), some (.int x2), some (.int x3), some (.int x4)]) (st' := [.int x3, .int x2, .int x1, .int (nI 260), .ref 10]) (fun _ => rfl) ?_
      obtain ⟨v1, hv1, hf⟩ := ob hf
      refine t_cv (as := [.int (nI 260), .int x1, .int x2, .int x3]) (st := []) (rfl : mfetch 159 82 = some (82, .invokevirtual 218, 3, 158, 0, 0)) rfl rfl rfl rfl rfl (ok_M_keepsWarm hv1) ?_
      by_cases hc2 : v1.1 = 0
      · rw [if_pos hc2] at hf
        refine t_jT (t := 91) (rfl : mfetch 159 85 = some (85, .ifCond .eq 6, 3, 0, 0, 0)) rfl (k_eq hc2) ?_
        refine mEnds.stp 2 (pc' := 56) (l' := [some (.ref 10), some (.int x1), some (.int x2), some (.int x3), some (.int (x4 + (nI 1)))]) (st' := []) (fun _ => rfl) ?_
        refine mEnds.cut (l := [some (.ref 10), some (.int x1), some (.int x2), some (.int x3), some (.int (x4 + (nI 1)))]) ⟨rfl, ⟨rfl, ⟨rfl, ⟨rfl, ⟨rfl, trivial⟩⟩⟩⟩⟩ ?_
        exact ok_M_need_56 fu (x4 + (nI 1)) v1.2 _ hf
      · rw [if_neg hc2] at hf
        refine t_jF (rfl : mfetch 159 85 = some (85, .ifCond .eq 6, 3, 0, 0, 0)) (k_eq' hc2) ?_
        refine mEnds.stp 1 (pc' := 90) (l' := [some (.ref 10), some (.int x1), some (.int x2), some (.int x3), some (.int x4)]) (st' := [.int x4]) (fun _ => rfl) ?_
        exact mEnds.rti (Option.some.inj hf) (fun _ => rfl)
def M_need (x1 : Int32) (x2 : Int32) (x3 : Int32) (s : sg) : Option (Int32 × sg) :=
  (M_isRoom x1 s).bind fun v1 =>
  if v1 = 0 then
    some ((-1), s)
  else
    (M_in x2.toInt64 (1 : Int64) (60 : Int64) s).bind fun v2 =>
    if v2 = 0 then
      some ((-1), s)
    else
      (M_in x3.toInt64 (0 : Int64) (99 : Int64) s).bind fun v3 =>
      if v3 = 0 then
        some ((-1), s)
      else
        (M_hasTongue x1 s).bind fun v4 =>
        if v4 = 0 then
          some ((-2), s)
        else
          (M_copies (nI 0) (nI 260) s).bind fun s1 =>
          M_need_56 x1 x2 x3 FU (nI 0) s1
set_option maxRecDepth 100000 in
theorem ok_M_need {x1 : Int32} {x2 : Int32} {x3 : Int32} {s : sg} {rv : (Int32 × sg)} (hf : M_need x1 x2 x3 s = some rv) : mEnds [] 5 159 (0, [some (.ref 10), some (.int x1), some (.int x2), some (.int x3), none], [], hp shM s, 0, 0) (some (.int rv.1), hp shM rv.2, 0, 0) := by
  unfold M_need at hf
  refine mEnds.stp 2 (pc' := 2) (l' := [some (.ref 10), some (.int x1), some (.int x2), some (.int x3), none]) (st' := [.int x1, .ref 10]) (fun _ => rfl) ?_
  obtain ⟨v1, hv1, hf⟩ := ob hf
  refine t_cv (as := [.int x1]) (st := []) (rfl : mfetch 159 2 = some (2, .invokevirtual 167, 3, 126, 0, 0)) rfl rfl rfl rfl rfl ((ok_M_isRoom hv1).deep 3) ?_
  by_cases hc1 : v1 = 0
  · rw [if_pos hc1] at hf
    refine t_jT (t := 32) (rfl : mfetch 159 5 = some (5, .ifCond .eq 27, 3, 0, 0, 0)) rfl (k_eq hc1) ?_
    refine mEnds.stp 1 (pc' := 33) (l' := [some (.ref 10), some (.int x1), some (.int x2), some (.int x3), none]) (st' := [.int (-1)]) (fun _ => rfl) ?_
    exact mEnds.rti (Option.some.inj hf) (fun _ => rfl)
  · rw [if_neg hc1] at hf
    refine t_jF (rfl : mfetch 159 5 = some (5, .ifCond .eq 27, 3, 0, 0, 0)) (k_eq' hc1) ?_
    refine mEnds.stp 4 (pc' := 14) (l' := [some (.ref 10), some (.int x1), some (.int x2), some (.int x3), none]) (st' := [.long (60 : Int64), .long (1 : Int64), .long x2.toInt64]) (fun _ => rfl) ?_
    obtain ⟨v2, hv2, hf⟩ := ob hf
    refine t_cs (as := [.long x2.toInt64, .long (1 : Int64), .long (60 : Int64)]) (st := []) (Or.inl rfl) (rfl : mfetch 159 14 = some (14, .invokestatic 49, 3, 111, 0, 0)) rfl rfl rfl ((ok_M_in hv2).deep 4) ?_
    by_cases hc2 : v2 = 0
    · rw [if_pos hc2] at hf
      refine t_jT (t := 32) (rfl : mfetch 159 17 = some (17, .ifCond .eq 15, 3, 0, 0, 0)) rfl (k_eq hc2) ?_
      refine mEnds.stp 1 (pc' := 33) (l' := [some (.ref 10), some (.int x1), some (.int x2), some (.int x3), none]) (st' := [.int (-1)]) (fun _ => rfl) ?_
      exact mEnds.rti (Option.some.inj hf) (fun _ => rfl)
    · rw [if_neg hc2] at hf
      refine t_jF (rfl : mfetch 159 17 = some (17, .ifCond .eq 15, 3, 0, 0, 0)) (k_eq' hc2) ?_
      refine mEnds.stp 4 (pc' := 26) (l' := [some (.ref 10), some (.int x1), some (.int x2), some (.int x3), none]) (st' := [.long (99 : Int64), .long (0 : Int64), .long x3.toInt64]) (fun _ => rfl) ?_
      obtain ⟨v3, hv3, hf⟩ := ob hf
      refine t_cs (as := [.long x3.toInt64, .long (0 : Int64), .long (99 : Int64)]) (st := []) (Or.inl rfl) (rfl : mfetch 159 26 = some (26, .invokestatic 49, 3, 111, 0, 0)) rfl rfl rfl ((ok_M_in hv3).deep 4) ?_
      by_cases hc3 : v3 = 0
      · rw [if_pos hc3] at hf
        refine t_jF (rfl : mfetch 159 29 = some (29, .ifCond .ne 5, 3, 0, 0, 0)) (k_ne' hc3) ?_
        refine mEnds.stp 1 (pc' := 33) (l' := [some (.ref 10), some (.int x1), some (.int x2), some (.int x3), none]) (st' := [.int (-1)]) (fun _ => rfl) ?_
        exact mEnds.rti (Option.some.inj hf) (fun _ => rfl)
      · rw [if_neg hc3] at hf
        refine t_jT (t := 34) (rfl : mfetch 159 29 = some (29, .ifCond .ne 5, 3, 0, 0, 0)) rfl (k_ne hc3) ?_
        refine mEnds.stp 2 (pc' := 36) (l' := [some (.ref 10), some (.int x1), some (.int x2), some (.int x3), none]) (st' := [.int x1, .ref 10]) (fun _ => rfl) ?_
        obtain ⟨v4, hv4, hf⟩ := ob hf
        refine t_cv (as := [.int x1]) (st := []) (rfl : mfetch 159 36 = some (36, .invokevirtual 173, 3, 128, 0, 0)) rfl rfl rfl rfl rfl ((ok_M_hasTongue hv4).deep 4) ?_
        by_cases hc4 : v4 = 0
        · rw [if_pos hc4] at hf
          refine t_jF (rfl : mfetch 159 39 = some (39, .ifCond .ne 6, 3, 0, 0, 0)) (k_ne' hc4) ?_
          refine mEnds.stp 1 (pc' := 44) (l' := [some (.ref 10), some (.int x1), some (.int x2), some (.int x3), none]) (st' := [.int (-2)]) (fun _ => rfl) ?_
          exact mEnds.rti (Option.some.inj hf) (fun _ => rfl)
        · rw [if_neg hc4] at hf
          refine t_jT (t := 45) (rfl : mfetch 159 39 = some (39, .ifCond .ne 6, 3, 0, 0, 0)) rfl (k_ne hc4) ?_
          refine mEnds.stp 3 (pc' := 50) (l' := [some (.ref 10), some (.int x1), some (.int x2), some (.int x3), none]) (st' := [.int (nI 260), .int (nI 0), .ref 10]) (fun _ => rfl) ?_
          obtain ⟨s1, hs1, hf⟩ := ob hf
          refine t_cv (as := [.int (nI 0), .int (nI 260)]) (st := []) (rfl : mfetch 159 50 = some (50, .invokevirtual 201, 3, 152, 0, 0)) rfl rfl rfl rfl rfl ((ok_M_copies hs1).deep 4) ?_
          refine mEnds.stp 2 (pc' := 56) (l' := [some (.ref 10), some (.int x1), some (.int x2), some (.int x3), some (.int (nI 0))]) (st' := []) (fun _ => rfl) ?_
          refine mEnds.cut (l := [some (.ref 10), some (.int x1), some (.int x2), some (.int x3), some (.int (nI 0))]) ⟨rfl, ⟨rfl, ⟨rfl, ⟨rfl, ⟨rfl, trivial⟩⟩⟩⟩⟩ ?_
          exact ok_M_need_56 FU (nI 0) s1 _ hf
def M_kind_105 (k61 : Int32 → Int32 → Int32 → sg → Option (Int32 × sg)) (x1 : Int32) (x2 : Int32) (x3 : Int32) (x4 : Int32) (x6 : Int32) (x7 : Int32) (y0 : Int32) (s : sg) : Option (Int32 × sg) :=
  if x7 < x4 then
    k61 x7 y0 (x6 + (nI 1)) s
  else
    k61 x4 y0 (x6 + (nI 1)) s
set_option maxRecDepth 100000 in
theorem ok_M_kind_105 {k61 : Int32 → Int32 → Int32 → sg → Option (Int32 × sg)} {x1 : Int32} {x2 : Int32} {x3 : Int32} {x4 : Int32} {x6 : Int32} {x7 : Int32} {y0 : Int32} {s : sg} {rv : (Int32 × sg)} (hk61 : ∀ (x4 : Int32) (x5 : Int32) (x6 : Int32) (s : sg) (rv : (Int32 × sg)), k61 x4 x5 x6 s = some rv → mEnds [] 5 160 (61, [some (.ref 10), some (.int x1), some (.int x2), some (.int x3), some (.int x4), some (.int x5), some (.int x6), none], [], hp shM s, 0, 0) (some (.int rv.1), hp shM rv.2, 0, 0)) (hf : M_kind_105 k61 x1 x2 x3 x4 x6 x7 y0 s = some rv) : mEnds [] 5 160 (105, [some (.ref 10), some (.int x1), some (.int x2), some (.int x3), some (.int x4), none, some (.int x6), some (.int x7)], [.int y0], hp shM s, 0, 0) (some (.int rv.1), hp shM rv.2, 0, 0) := by
  unfold M_kind_105 at hf
  refine mEnds.stp 3 (pc' := 111) (l' := [some (.ref 10), some (.int x1), some (.int x2), some (.int x3), some (.int x4), some (.int y0), some (.int x6), some (.int x7)]) (st' := [.int x4, .int x7]) (fun _ => rfl) ?_
  by_cases hc1 : x7 < x4
  · rw [if_pos hc1] at hf
    refine t_cF (rfl : mfetch 160 111 = some (111, .if_icmp .ge 8, 3, 0, 0, 0)) (k_ge' hc1) ?_
    refine mEnds.stp 5 (pc' := 61) (l' := [some (.ref 10), some (.int x1), some (.int x2), some (.int x3), some (.int x7), some (.int y0), some (.int (x6 + (nI 1))), some (.int x7)]) (st' := []) (fun _ => rfl) ?_
    refine mEnds.cut (l := [some (.ref 10), some (.int x1), some (.int x2), some (.int x3), some (.int x7), some (.int y0), some (.int (x6 + (nI 1))), none]) ⟨rfl, ⟨rfl, ⟨rfl, ⟨rfl, ⟨rfl, ⟨rfl, ⟨rfl, trivial⟩⟩⟩⟩⟩⟩⟩ ?_
    exact hk61 x7 y0 (x6 + (nI 1)) s _ hf
  · rw [if_neg hc1] at hf
    refine t_cT (t := 119) (rfl : mfetch 160 111 = some (111, .if_icmp .ge 8, 3, 0, 0, 0)) rfl (k_ge hc1) ?_
    refine mEnds.stp 4 (pc' := 61) (l' := [some (.ref 10), some (.int x1), some (.int x2), some (.int x3), some (.int x4), some (.int y0), some (.int (x6 + (nI 1))), some (.int x7)]) (st' := []) (fun _ => rfl) ?_
    refine mEnds.cut (l := [some (.ref 10), some (.int x1), some (.int x2), some (.int x3), some (.int x4), some (.int y0), some (.int (x6 + (nI 1))), none]) ⟨rfl, ⟨rfl, ⟨rfl, ⟨rfl, ⟨rfl, ⟨rfl, ⟨rfl, trivial⟩⟩⟩⟩⟩⟩⟩ ?_
    exact hk61 x4 y0 (x6 + (nI 1)) s _ hf
def M_kind_61 (x1 : Int32) (x2 : Int32) (x3 : Int32) : Nat → Int32 → Int32 → Int32 → sg → Option (Int32 × sg)
  | 0, _, _, _, _ => none
  | fu + 1, x4, x5, x6, s =>
  if x6 < nI 4 then
    (midx ((nI 278) + x1) 312).bind fun j1 =>
    (some (up s 11 j1 (x6 + (nI 1)))).bind fun s1 =>
    (M_hoursGo (nI 260) x2 s1).bind fun v1 =>
    if v1.1 < x4 then
      M_kind_105 (M_kind_61 x1 x2 x3 fu) x1 x2 x3 x4 x6 v1.1 x6 v1.2
    else
      M_kind_105 (M_kind_61 x1 x2 x3 fu) x1 x2 x3 x4 x6 v1.1 x5 v1.2
  else
    if x3 = 0 then
      some (x5, s)
    else
      some (x4, s)
set_option maxRecDepth 100000 in
theorem ok_M_kind_61 {x1 : Int32} {x2 : Int32} {x3 : Int32} : ∀ (fu : Nat) (x4 : Int32) (x5 : Int32) (x6 : Int32) (s : sg) (rv : (Int32 × sg)), M_kind_61 x1 x2 x3 fu x4 x5 x6 s = some rv → mEnds [] 5 160 (61, [some (.ref 10), some (.int x1), some (.int x2), some (.int x3), some (.int x4), some (.int x5), some (.int x6), none], [], hp shM s, 0, 0) (some (.int rv.1), hp shM rv.2, 0, 0)
  | 0, _, _, _, _, _, hf => by cases hf
  | fu + 1, x4, x5, x6, s, rv, hf => by
    rw [M_kind_61] at hf
    refine mEnds.stp 2 (pc' := 64) (l' := [some (.ref 10), some (.int x1), some (.int x2), some (.int x3), some (.int x4), some (.int x5), some (.int x6), none]) (st' := [.int (nI 4), .int x6]) (fun _ => rfl) ?_
    by_cases hc1 : x6 < nI 4
    · rw [if_pos hc1] at hf
      refine t_cF (rfl : mfetch 160 64 = some (64, .if_icmp .ge 65, 3, 0, 0, 0)) (k_ge' hc1) ?_
      refine mEnds.stp 1 (pc' := 68) (l' := [some (.ref 10), some (.int x1), some (.int x2), some (.int x3), some (.int x4), some (.int x5), some (.int x6), none]) (st' := [.ref 10]) (fun _ => rfl) ?_
      refine t_gr (rfl : mfetch 160 68 = some (68, .getfield 7, 3, 5, 0, 0)) rfl rfl ?_
      refine mEnds.stp 6 (pc' := 80) (l' := [some (.ref 10), some (.int x1), some (.int x2), some (.int x3), some (.int x4), some (.int x5), some (.int x6), none]) (st' := [.int (x6 + (nI 1)), .int ((nI 278) + x1), .ref 11]) (fun _ => rfl) ?_
      obtain ⟨j1, hj1, hf⟩ := ob hf
      obtain ⟨s1, hs1, hf⟩ := ob hf
      refine t_is (rfl : mfetch 160 80 = some (80, .iastore, 1, 0, 0, 0)) rfl rfl hj1 hs1 ?_
      refine mEnds.stp 3 (pc' := 86) (l' := [some (.ref 10), some (.int x1), some (.int x2), some (.int x3), some (.int x4), some (.int x5), some (.int x6), none]) (st' := [.int x2, .int (nI 260), .ref 10]) (fun _ => rfl) ?_
      obtain ⟨v1, hv1, hf⟩ := ob hf
      refine t_cv (as := [.int (nI 260), .int x2]) (st := []) (rfl : mfetch 160 86 = some (86, .invokevirtual 215, 3, 153, 0, 0)) rfl rfl rfl rfl rfl (ok_M_hoursGo hv1) ?_
      refine mEnds.stp 3 (pc' := 95) (l' := [some (.ref 10), some (.int x1), some (.int x2), some (.int x3), some (.int x4), some (.int x5), some (.int x6), some (.int v1.1)]) (st' := [.int x4, .int v1.1]) (fun _ => rfl) ?_
      by_cases hc3 : v1.1 < x4
      · rw [if_pos hc3] at hf
        refine t_cF (rfl : mfetch 160 95 = some (95, .if_icmp .ge 8, 3, 0, 0, 0)) (k_ge' hc3) ?_
        refine mEnds.stp 2 (pc' := 105) (l' := [some (.ref 10), some (.int x1), some (.int x2), some (.int x3), some (.int x4), some (.int x5), some (.int x6), some (.int v1.1)]) (st' := [.int x6]) (fun _ => rfl) ?_
        refine mEnds.cut (l := [some (.ref 10), some (.int x1), some (.int x2), some (.int x3), some (.int x4), none, some (.int x6), some (.int v1.1)]) ⟨rfl, ⟨rfl, ⟨rfl, ⟨rfl, ⟨rfl, ⟨rfl, ⟨rfl, trivial⟩⟩⟩⟩⟩⟩⟩ ?_
        exact ok_M_kind_105 (ok_M_kind_61 fu) hf
      · rw [if_neg hc3] at hf
        refine t_cT (t := 103) (rfl : mfetch 160 95 = some (95, .if_icmp .ge 8, 3, 0, 0, 0)) rfl (k_ge hc3) ?_
        refine mEnds.stp 1 (pc' := 105) (l' := [some (.ref 10), some (.int x1), some (.int x2), some (.int x3), some (.int x4), some (.int x5), some (.int x6), some (.int v1.1)]) (st' := [.int x5]) (fun _ => rfl) ?_
        refine mEnds.cut (l := [some (.ref 10), some (.int x1), some (.int x2), some (.int x3), some (.int x4), none, some (.int x6), some (.int v1.1)]) ⟨rfl, ⟨rfl, ⟨rfl, ⟨rfl, ⟨rfl, ⟨rfl, ⟨rfl, trivial⟩⟩⟩⟩⟩⟩⟩ ?_
        exact ok_M_kind_105 (ok_M_kind_61 fu) hf
    · rw [if_neg hc1] at hf
      refine t_cT (t := 129) (rfl : mfetch 160 64 = some (64, .if_icmp .ge 65, 3, 0, 0, 0)) rfl (k_ge hc1) ?_
      refine mEnds.stp 1 (pc' := 130) (l' := [some (.ref 10), some (.int x1), some (.int x2), some (.int x3), some (.int x4), some (.int x5), some (.int x6), none]) (st' := [.int x3]) (fun _ => rfl) ?_
      by_cases hc2 : x3 = 0
      · rw [if_pos hc2] at hf
        refine t_jF (rfl : mfetch 160 130 = some (130, .ifCond .ne 8, 3, 0, 0, 0)) (k_ne' hc2) ?_
        refine mEnds.stp 2 (pc' := 140) (l' := [some (.ref 10), some (.int x1), some (.int x2), some (.int x3), some (.int x4), some (.int x5), some (.int x6), none]) (st' := [.int x5]) (fun _ => rfl) ?_
        exact mEnds.rti (Option.some.inj hf) (fun _ => rfl)
      · rw [if_neg hc2] at hf
        refine t_jT (t := 138) (rfl : mfetch 160 130 = some (130, .ifCond .ne 8, 3, 0, 0, 0)) rfl (k_ne hc2) ?_
        refine mEnds.stp 1 (pc' := 140) (l' := [some (.ref 10), some (.int x1), some (.int x2), some (.int x3), some (.int x4), some (.int x5), some (.int x6), none]) (st' := [.int x4]) (fun _ => rfl) ?_
        exact mEnds.rti (Option.some.inj hf) (fun _ => rfl)
def M_kind (x1 : Int32) (x2 : Int32) (x3 : Int32) (s : sg) : Option (Int32 × sg) :=
  (M_isRoom x1 s).bind fun v1 =>
  if v1 = 0 then
    some ((-1), s)
  else
    (M_in x2.toInt64 (0 : Int64) (60 : Int64) s).bind fun v2 =>
    if v2 = 0 then
      some ((-1), s)
    else
      (M_in x3.toInt64 (0 : Int64) (1 : Int64) s).bind fun v3 =>
      if v3 = 0 then
        some ((-1), s)
      else
        (M_hasTongue x1 s).bind fun v4 =>
        if v4 = 0 then
          some ((-2), s)
        else
          (M_copies (nI 0) (nI 260) s).bind fun s1 =>
          M_kind_61 x1 x2 x3 FU (nI 1000000) (nI 0) (nI 0) s1
set_option maxRecDepth 100000 in
theorem ok_M_kind {x1 : Int32} {x2 : Int32} {x3 : Int32} {s : sg} {rv : (Int32 × sg)} (hf : M_kind x1 x2 x3 s = some rv) : mEnds [] 5 160 (0, [some (.ref 10), some (.int x1), some (.int x2), some (.int x3), none, none, none, none], [], hp shM s, 0, 0) (some (.int rv.1), hp shM rv.2, 0, 0) := by
  unfold M_kind at hf
  refine mEnds.stp 2 (pc' := 2) (l' := [some (.ref 10), some (.int x1), some (.int x2), some (.int x3), none, none, none, none]) (st' := [.int x1, .ref 10]) (fun _ => rfl) ?_
  obtain ⟨v1, hv1, hf⟩ := ob hf
  refine t_cv (as := [.int x1]) (st := []) (rfl : mfetch 160 2 = some (2, .invokevirtual 167, 3, 126, 0, 0)) rfl rfl rfl rfl rfl ((ok_M_isRoom hv1).deep 3) ?_
  by_cases hc1 : v1 = 0
  · rw [if_pos hc1] at hf
    refine t_jT (t := 30) (rfl : mfetch 160 5 = some (5, .ifCond .eq 25, 3, 0, 0, 0)) rfl (k_eq hc1) ?_
    refine mEnds.stp 1 (pc' := 31) (l' := [some (.ref 10), some (.int x1), some (.int x2), some (.int x3), none, none, none, none]) (st' := [.int (-1)]) (fun _ => rfl) ?_
    exact mEnds.rti (Option.some.inj hf) (fun _ => rfl)
  · rw [if_neg hc1] at hf
    refine t_jF (rfl : mfetch 160 5 = some (5, .ifCond .eq 25, 3, 0, 0, 0)) (k_eq' hc1) ?_
    refine mEnds.stp 4 (pc' := 14) (l' := [some (.ref 10), some (.int x1), some (.int x2), some (.int x3), none, none, none, none]) (st' := [.long (60 : Int64), .long (0 : Int64), .long x2.toInt64]) (fun _ => rfl) ?_
    obtain ⟨v2, hv2, hf⟩ := ob hf
    refine t_cs (as := [.long x2.toInt64, .long (0 : Int64), .long (60 : Int64)]) (st := []) (Or.inl rfl) (rfl : mfetch 160 14 = some (14, .invokestatic 49, 3, 111, 0, 0)) rfl rfl rfl ((ok_M_in hv2).deep 4) ?_
    by_cases hc2 : v2 = 0
    · rw [if_pos hc2] at hf
      refine t_jT (t := 30) (rfl : mfetch 160 17 = some (17, .ifCond .eq 13, 3, 0, 0, 0)) rfl (k_eq hc2) ?_
      refine mEnds.stp 1 (pc' := 31) (l' := [some (.ref 10), some (.int x1), some (.int x2), some (.int x3), none, none, none, none]) (st' := [.int (-1)]) (fun _ => rfl) ?_
      exact mEnds.rti (Option.some.inj hf) (fun _ => rfl)
    · rw [if_neg hc2] at hf
      refine t_jF (rfl : mfetch 160 17 = some (17, .ifCond .eq 13, 3, 0, 0, 0)) (k_eq' hc2) ?_
      refine mEnds.stp 4 (pc' := 24) (l' := [some (.ref 10), some (.int x1), some (.int x2), some (.int x3), none, none, none, none]) (st' := [.long (1 : Int64), .long (0 : Int64), .long x3.toInt64]) (fun _ => rfl) ?_
      obtain ⟨v3, hv3, hf⟩ := ob hf
      refine t_cs (as := [.long x3.toInt64, .long (0 : Int64), .long (1 : Int64)]) (st := []) (Or.inl rfl) (rfl : mfetch 160 24 = some (24, .invokestatic 49, 3, 111, 0, 0)) rfl rfl rfl ((ok_M_in hv3).deep 4) ?_
      by_cases hc3 : v3 = 0
      · rw [if_pos hc3] at hf
        refine t_jF (rfl : mfetch 160 27 = some (27, .ifCond .ne 5, 3, 0, 0, 0)) (k_ne' hc3) ?_
        refine mEnds.stp 1 (pc' := 31) (l' := [some (.ref 10), some (.int x1), some (.int x2), some (.int x3), none, none, none, none]) (st' := [.int (-1)]) (fun _ => rfl) ?_
        exact mEnds.rti (Option.some.inj hf) (fun _ => rfl)
      · rw [if_neg hc3] at hf
        refine t_jT (t := 32) (rfl : mfetch 160 27 = some (27, .ifCond .ne 5, 3, 0, 0, 0)) rfl (k_ne hc3) ?_
        refine mEnds.stp 2 (pc' := 34) (l' := [some (.ref 10), some (.int x1), some (.int x2), some (.int x3), none, none, none, none]) (st' := [.int x1, .ref 10]) (fun _ => rfl) ?_
        obtain ⟨v4, hv4, hf⟩ := ob hf
        refine t_cv (as := [.int x1]) (st := []) (rfl : mfetch 160 34 = some (34, .invokevirtual 173, 3, 128, 0, 0)) rfl rfl rfl rfl rfl ((ok_M_hasTongue hv4).deep 4) ?_
        by_cases hc4 : v4 = 0
        · rw [if_pos hc4] at hf
          refine t_jF (rfl : mfetch 160 37 = some (37, .ifCond .ne 6, 3, 0, 0, 0)) (k_ne' hc4) ?_
          refine mEnds.stp 1 (pc' := 42) (l' := [some (.ref 10), some (.int x1), some (.int x2), some (.int x3), none, none, none, none]) (st' := [.int (-2)]) (fun _ => rfl) ?_
          exact mEnds.rti (Option.some.inj hf) (fun _ => rfl)
        · rw [if_neg hc4] at hf
          refine t_jT (t := 43) (rfl : mfetch 160 37 = some (37, .ifCond .ne 6, 3, 0, 0, 0)) rfl (k_ne hc4) ?_
          refine mEnds.stp 7 (pc' := 55) (l' := [some (.ref 10), some (.int x1), some (.int x2), some (.int x3), some (.int (nI 1000000)), some (.int (nI 0)), none, none]) (st' := [.int (nI 260), .int (nI 0), .ref 10]) (fun _ => rfl) ?_
          obtain ⟨s1, hs1, hf⟩ := ob hf
          refine t_cv (as := [.int (nI 0), .int (nI 260)]) (st := []) (rfl : mfetch 160 55 = some (55, .invokevirtual 201, 3, 152, 0, 0)) rfl rfl rfl rfl rfl ((ok_M_copies hs1).deep 4) ?_
          refine mEnds.stp 2 (pc' := 61) (l' := [some (.ref 10), some (.int x1), some (.int x2), some (.int x3), some (.int (nI 1000000)), some (.int (nI 0)), some (.int (nI 0)), none]) (st' := []) (fun _ => rfl) ?_
          refine mEnds.cut (l := [some (.ref 10), some (.int x1), some (.int x2), some (.int x3), some (.int (nI 1000000)), some (.int (nI 0)), some (.int (nI 0)), none]) ⟨rfl, ⟨rfl, ⟨rfl, ⟨rfl, ⟨rfl, ⟨rfl, ⟨rfl, trivial⟩⟩⟩⟩⟩⟩⟩ ?_
          exact ok_M_kind_61 FU (nI 1000000) (nI 0) (nI 0) s1 _ hf
end Q31e
