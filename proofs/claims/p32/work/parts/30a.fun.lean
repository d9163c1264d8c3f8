def F_put (x1 : Int32) (x2 : Int32) (x3 : Int32) (s : sg) : Option (Int32 × sg) :=
  if s 23 3 < nI 6 then
    (midx (s 23 3) 6).bind fun j1 =>
    (some (up s 24 j1 x1)).bind fun s1 =>
    (midx (s1 23 3) 6).bind fun j2 =>
    (some (up s1 25 j2 x2)).bind fun s2 =>
    (midx (s2 23 3) 6).bind fun j3 =>
    (some (up s2 26 j3 x3)).bind fun s3 =>
    (some (up s3 23 3 ((s3 23 3) + (nI 1)))).bind fun s4 =>
    some (nI 1, s4)
  else
    some (nI 0, s)
set_option maxRecDepth 100000 in
theorem ok_F_put {x1 : Int32} {x2 : Int32} {x3 : Int32} {s : sg} {rv : (Int32 × sg)} (hf : F_put x1 x2 x3 s = some rv) : mEnds [] 0 1 (0, [some (.ref 23), some (.int x1), some (.int x2), some (.int x3)], [], hp shC s, 0, 0) (some (.int rv.1), hp shC rv.2, 0, 0) := by
  unfold F_put at hf
  refine mEnds.stp 1 (pc' := 1) (l' := [some (.ref 23), some (.int x1), some (.int x2), some (.int x3)]) (st' := [.ref 23]) (fun _ => rfl) ?_
  refine t_gi (rfl : mfetch 1 1 = some (1, .getfield 19, 3, 0, 3, 0)) rfl rfl ?_
  refine mEnds.stp 1 (pc' := 6) (l' := [some (.ref 23), some (.int x1), some (.int x2), some (.int x3)]) (st' := [.int (nI 6), .int (s 23 3)]) (fun _ => rfl) ?_
  by_cases hc1 : s 23 3 < nI 6
  · rw [if_pos hc1] at hf
    refine t_cT (t := 11) (rfl : mfetch 1 6 = some (6, .if_icmp .lt 5, 3, 0, 0, 0)) rfl (k_lt hc1) ?_
    refine mEnds.stp 1 (pc' := 12) (l' := [some (.ref 23), some (.int x1), some (.int x2), some (.int x3)]) (st' := [.ref 23]) (fun _ => rfl) ?_
    refine t_gr (rfl : mfetch 1 12 = some (12, .getfield 9, 3, 0, 0, 0)) rfl rfl ?_
    refine mEnds.stp 1 (pc' := 16) (l' := [some (.ref 23), some (.int x1), some (.int x2), some (.int x3)]) (st' := [.ref 23, .ref 24]) (fun _ => rfl) ?_
    refine t_gi (rfl : mfetch 1 16 = some (16, .getfield 19, 3, 0, 3, 0)) rfl rfl ?_
    refine mEnds.stp 1 (pc' := 20) (l' := [some (.ref 23), some (.int x1), some (.int x2), some (.int x3)]) (st' := [.int x1, .int (s 23 3), .ref 24]) (fun _ => rfl) ?_
    obtain ⟨j1, hj1, hf⟩ := ob hf
    obtain ⟨s1, hs1, hf⟩ := ob hf
    refine t_is (rfl : mfetch 1 20 = some (20, .iastore, 1, 0, 0, 0)) rfl rfl hj1 hs1 ?_
    refine mEnds.stp 1 (pc' := 22) (l' := [some (.ref 23), some (.int x1), some (.int x2), some (.int x3)]) (st' := [.ref 23]) (fun _ => rfl) ?_
    refine t_gr (rfl : mfetch 1 22 = some (22, .getfield 13, 3, 0, 1, 0)) rfl rfl ?_
    refine mEnds.stp 1 (pc' := 26) (l' := [some (.ref 23), some (.int x1), some (.int x2), some (.int x3)]) (st' := [.ref 23, .ref 25]) (fun _ => rfl) ?_
    refine t_gi (rfl : mfetch 1 26 = some (26, .getfield 19, 3, 0, 3, 0)) rfl rfl ?_
    refine mEnds.stp 1 (pc' := 30) (l' := [some (.ref 23), some (.int x1), some (.int x2), some (.int x3)]) (st' := [.int x2, .int (s1 23 3), .ref 25]) (fun _ => rfl) ?_
    obtain ⟨j2, hj2, hf⟩ := ob hf
    obtain ⟨s2, hs2, hf⟩ := ob hf
    refine t_is (rfl : mfetch 1 30 = some (30, .iastore, 1, 0, 0, 0)) rfl rfl hj2 hs2 ?_
    refine mEnds.stp 1 (pc' := 32) (l' := [some (.ref 23), some (.int x1), some (.int x2), some (.int x3)]) (st' := [.ref 23]) (fun _ => rfl) ?_
    refine t_gr (rfl : mfetch 1 32 = some (32, .getfield 16, 3, 0, 2, 0)) rfl rfl ?_
    refine mEnds.stp 1 (pc' := 36) (l' := [some (.ref 23), some (.int x1), some (.int x2), some (.int x3)]) (st' := [.ref 23, .ref 26]) (fun _ => rfl) ?_
    refine t_gi (rfl : mfetch 1 36 = some (36, .getfield 19, 3, 0, 3, 0)) rfl rfl ?_
    refine mEnds.stp 1 (pc' := 40) (l' := [some (.ref 23), some (.int x1), some (.int x2), some (.int x3)]) (st' := [.int x3, .int (s2 23 3), .ref 26]) (fun _ => rfl) ?_
    obtain ⟨j3, hj3, hf⟩ := ob hf
    obtain ⟨s3, hs3, hf⟩ := ob hf
    refine t_is (rfl : mfetch 1 40 = some (40, .iastore, 1, 0, 0, 0)) rfl rfl hj3 hs3 ?_
    refine mEnds.stp 2 (pc' := 43) (l' := [some (.ref 23), some (.int x1), some (.int x2), some (.int x3)]) (st' := [.ref 23, .ref 23]) (fun _ => rfl) ?_
    refine t_gi (rfl : mfetch 1 43 = some (43, .getfield 19, 3, 0, 3, 0)) rfl rfl ?_
    refine mEnds.stp 2 (pc' := 48) (l' := [some (.ref 23), some (.int x1), some (.int x2), some (.int x3)]) (st' := [.int ((s3 23 3) + (nI 1)), .ref 23]) (fun _ => rfl) ?_
    obtain ⟨s4, hs4, hf⟩ := ob hf
    refine t_pi (rfl : mfetch 1 48 = some (48, .putfield 19, 3, 0, 3, 0)) rfl rfl rfl rfl hs4 ?_
    refine mEnds.stp 1 (pc' := 52) (l' := [some (.ref 23), some (.int x1), some (.int x2), some (.int x3)]) (st' := [.int (nI 1)]) (fun _ => rfl) ?_
    exact mEnds.rti (Option.some.inj hf) (fun _ => rfl)
  · rw [if_neg hc1] at hf
    refine t_cF (rfl : mfetch 1 6 = some (6, .if_icmp .lt 5, 3, 0, 0, 0)) (k_lt' hc1) ?_
    refine mEnds.stp 1 (pc' := 10) (l' := [some (.ref 23), some (.int x1), some (.int x2), some (.int x3)]) (st' := [.int (nI 0)]) (fun _ => rfl) ?_
    exact mEnds.rti (Option.some.inj hf) (fun _ => rfl)
def F_lastHour_4 (s : sg) : Nat → Int32 → Int32 → Option Int32
  | 0, _, _ => none
  | fu + 1, x1, x2 =>
  if x2 < s 23 3 then
    (midx x2 6).bind fun j1 =>
    F_lastHour_4 s fu (if x1 < s 24 j1 then s 24 j1 else x1) (x2 + (nI 1))
  else
    some x1
set_option maxRecDepth 100000 in
theorem ok_F_lastHour_4 {s : sg} : ∀ (fu : Nat) (x1 : Int32) (x2 : Int32) (rv : Int32), F_lastHour_4 s fu x1 x2 = some rv → mEnds [] 0 3 (4, [some (.ref 23), some (.int x1), some (.int x2)], [], hp shC s, 0, 0) (some (.int rv), hp shC s, 0, 0)
  | 0, _, _, _, hf => by cases hf
  | fu + 1, x1, x2, rv, hf => by
    rw [F_lastHour_4] at hf
    refine mEnds.stp 2 (pc' := 6) (l' := [some (.ref 23), some (.int x1), some (.int x2)]) (st' := [.ref 23, .int x2]) (fun _ => rfl) ?_
    refine t_gi (rfl : mfetch 3 6 = some (6, .getfield 19, 3, 0, 3, 0)) rfl rfl ?_
    by_cases hc1 : x2 < s 23 3
    · rw [if_pos hc1] at hf
      refine t_cF (rfl : mfetch 3 9 = some (9, .if_icmp .ge 20, 3, 0, 0, 0)) (k_ge' hc1) ?_
      refine mEnds.stp 2 (pc' := 14) (l' := [some (.ref 23), some (.int x1), some (.int x2)]) (st' := [.ref 23, .int x1]) (fun _ => rfl) ?_
      refine t_gr (rfl : mfetch 3 14 = some (14, .getfield 9, 3, 0, 0, 0)) rfl rfl ?_
      refine mEnds.stp 1 (pc' := 18) (l' := [some (.ref 23), some (.int x1), some (.int x2)]) (st' := [.int x2, .ref 24, .int x1]) (fun _ => rfl) ?_
      obtain ⟨j1, hj1, hf⟩ := ob hf
      refine t_ia (rfl : mfetch 3 18 = some (18, .iaload, 1, 0, 0, 0)) rfl rfl hj1 ?_
      refine mEnds.stp 4 (pc' := 4) (l' := [some (.ref 23), some (.int (if x1 < s 24 j1 then s 24 j1 else x1)), some (.int (x2 + (nI 1)))]) (st' := []) (fun _ => rfl) ?_
      refine mEnds.cut (l := [some (.ref 23), some (.int (if x1 < s 24 j1 then s 24 j1 else x1)), some (.int (x2 + (nI 1)))]) ⟨rfl, ⟨rfl, ⟨rfl, trivial⟩⟩⟩ ?_
      exact ok_F_lastHour_4 fu (if x1 < s 24 j1 then s 24 j1 else x1) (x2 + (nI 1)) _ hf
    · rw [if_neg hc1] at hf
      refine t_cT (t := 29) (rfl : mfetch 3 9 = some (9, .if_icmp .ge 20, 3, 0, 0, 0)) rfl (k_ge hc1) ?_
      refine mEnds.stp 1 (pc' := 30) (l' := [some (.ref 23), some (.int x1), some (.int x2)]) (st' := [.int x1]) (fun _ => rfl) ?_
      cases hf; exact mEnds.rt (fun _ => rfl)
def F_lastHour (s : sg) : Option Int32 :=
  F_lastHour_4 s FU (nI 0) (nI 0)
set_option maxRecDepth 100000 in
theorem ok_F_lastHour {s : sg} {rv : Int32} (hf : F_lastHour s = some rv) : mEnds [] 0 3 (0, [some (.ref 23), none, none], [], hp shC s, 0, 0) (some (.int rv), hp shC s, 0, 0) := by
  unfold F_lastHour at hf
  refine mEnds.stp 4 (pc' := 4) (l' := [some (.ref 23), some (.int (nI 0)), some (.int (nI 0))]) (st' := []) (fun _ => rfl) ?_
  refine mEnds.cut (l := [some (.ref 23), some (.int (nI 0)), some (.int (nI 0))]) ⟨rfl, ⟨rfl, ⟨rfl, trivial⟩⟩⟩ ?_
  exact ok_F_lastHour_4 FU (nI 0) (nI 0) _ hf
def F_holdAt_2 (b : Nat) (x1 : Int32) (s : sg) : Nat → Int32 → Option Int32
  | 0, _ => none
  | fu + 1, x3 =>
  if x3 < s 23 3 then
    (midx x3 6).bind fun j1 =>
    if s 24 j1 = x1 then
      (midx x3 6).bind fun j2 =>
      (midx (s 25 j2) 6).bind fun j3 =>
      (midx x3 6).bind fun j4 =>
      if s (b + 1) j3 = s 26 j4 then
        F_holdAt_2 b x1 s fu (x3 + (nI 1))
      else
        some (nI 0)
    else
      F_holdAt_2 b x1 s fu (x3 + (nI 1))
  else
    some (nI 1)
set_option maxRecDepth 100000 in
theorem ok_F_holdAt_2 {b : Nat} {x1 : Int32} {s : sg} (hb : isH b) : ∀ (fu : Nat) (x3 : Int32) (rv : Int32), F_holdAt_2 b x1 s fu x3 = some rv → mEnds [] 0 4 (2, [some (.ref 23), some (.int x1), some (.ref b), some (.int x3)], [], hp shC s, 0, 0) (some (.int rv), hp shC s, 0, 0)
  | 0, _, _, hf => by cases hf
  | fu + 1, x3, rv, hf => by
    rw [F_holdAt_2] at hf
    refine mEnds.stp 2 (pc' := 4) (l' := [some (.ref 23), some (.int x1), some (.ref b), some (.int x3)]) (st' := [.ref 23, .int x3]) (fun _ => rfl) ?_
    refine t_gi (rfl : mfetch 4 4 = some (4, .getfield 19, 3, 0, 3, 0)) rfl rfl ?_
    by_cases hc1 : x3 < s 23 3
    · rw [if_pos hc1] at hf
      refine t_cF (rfl : mfetch 4 7 = some (7, .if_icmp .ge 41, 3, 0, 0, 0)) (k_ge' hc1) ?_
      refine mEnds.stp 1 (pc' := 11) (l' := [some (.ref 23), some (.int x1), some (.ref b), some (.int x3)]) (st' := [.ref 23]) (fun _ => rfl) ?_
      refine t_gr (rfl : mfetch 4 11 = some (11, .getfield 9, 3, 0, 0, 0)) rfl rfl ?_
      refine mEnds.stp 1 (pc' := 15) (l' := [some (.ref 23), some (.int x1), some (.ref b), some (.int x3)]) (st' := [.int x3, .ref 24]) (fun _ => rfl) ?_
      obtain ⟨j1, hj1, hf⟩ := ob hf
      refine t_ia (rfl : mfetch 4 15 = some (15, .iaload, 1, 0, 0, 0)) rfl rfl hj1 ?_
      refine mEnds.stp 1 (pc' := 17) (l' := [some (.ref 23), some (.int x1), some (.ref b), some (.int x3)]) (st' := [.int x1, .int (s 24 j1)]) (fun _ => rfl) ?_
      by_cases hc2 : s 24 j1 = x1
      · rw [if_pos hc2] at hf
        refine t_cF (rfl : mfetch 4 17 = some (17, .if_icmp .ne 25, 3, 0, 0, 0)) (k_ne' hc2) ?_
        refine mEnds.stp 1 (pc' := 21) (l' := [some (.ref 23), some (.int x1), some (.ref b), some (.int x3)]) (st' := [.ref b]) (fun _ => rfl) ?_
        refine t_gr (rfl : mfetch 4 21 = some (21, .getfield 42, 3, 1, 5, 0)) hb.1 rfl ?_
        refine mEnds.stp 1 (pc' := 25) (l' := [some (.ref 23), some (.int x1), some (.ref b), some (.int x3)]) (st' := [.ref 23, .ref (b + 1)]) (fun _ => rfl) ?_
        refine t_gr (rfl : mfetch 4 25 = some (25, .getfield 13, 3, 0, 1, 0)) rfl rfl ?_
        refine mEnds.stp 1 (pc' := 29) (l' := [some (.ref 23), some (.int x1), some (.ref b), some (.int x3)]) (st' := [.int x3, .ref 25, .ref (b + 1)]) (fun _ => rfl) ?_
        obtain ⟨j2, hj2, hf⟩ := ob hf
        refine t_ia (rfl : mfetch 4 29 = some (29, .iaload, 1, 0, 0, 0)) rfl rfl hj2 ?_
        obtain ⟨j3, hj3, hf⟩ := ob hf
        refine t_ia (rfl : mfetch 4 30 = some (30, .iaload, 1, 0, 0, 0)) hb.2.1 (isH_le hb 1) hj3 ?_
        refine mEnds.stp 1 (pc' := 32) (l' := [some (.ref 23), some (.int x1), some (.ref b), some (.int x3)]) (st' := [.ref 23, .int (s (b + 1) j3)]) (fun _ => rfl) ?_
        refine t_gr (rfl : mfetch 4 32 = some (32, .getfield 16, 3, 0, 2, 0)) rfl rfl ?_
        refine mEnds.stp 1 (pc' := 36) (l' := [some (.ref 23), some (.int x1), some (.ref b), some (.int x3)]) (st' := [.int x3, .ref 26, .int (s (b + 1) j3)]) (fun _ => rfl) ?_
        obtain ⟨j4, hj4, hf⟩ := ob hf
        refine t_ia (rfl : mfetch 4 36 = some (36, .iaload, 1, 0, 0, 0)) rfl rfl hj4 ?_
        by_cases hc3 : s (b + 1) j3 = s 26 j4
        · rw [if_pos hc3] at hf
          refine t_cT (t := 42) (rfl : mfetch 4 37 = some (37, .if_icmp .eq 5, 3, 0, 0, 0)) rfl (k_eq hc3) ?_
          refine mEnds.stp 2 (pc' := 2) (l' := [some (.ref 23), some (.int x1), some (.ref b), some (.int (x3 + (nI 1)))]) (st' := []) (fun _ => rfl) ?_
          refine mEnds.cut (l := [some (.ref 23), some (.int x1), some (.ref b), some (.int (x3 + (nI 1)))]) ⟨rfl, ⟨rfl, ⟨rfl, ⟨rfl, trivial⟩⟩⟩⟩ ?_
          exact ok_F_holdAt_2 hb fu (x3 + (nI 1)) _ hf
        · rw [if_neg hc3] at hf
          refine t_cF (rfl : mfetch 4 37 = some (37, .if_icmp .eq 5, 3, 0, 0, 0)) (k_eq' hc3) ?_
          refine mEnds.stp 1 (pc' := 41) (l' := [some (.ref 23), some (.int x1), some (.ref b), some (.int x3)]) (st' := [.int (nI 0)]) (fun _ => rfl) ?_
          cases hf; exact mEnds.rt (fun _ => rfl)
      · rw [if_neg hc2] at hf
        refine t_cT (t := 42) (rfl : mfetch 4 17 = some (17, .if_icmp .ne 25, 3, 0, 0, 0)) rfl (k_ne hc2) ?_
        refine mEnds.stp 2 (pc' := 2) (l' := [some (.ref 23), some (.int x1), some (.ref b), some (.int (x3 + (nI 1)))]) (st' := []) (fun _ => rfl) ?_
        refine mEnds.cut (l := [some (.ref 23), some (.int x1), some (.ref b), some (.int (x3 + (nI 1)))]) ⟨rfl, ⟨rfl, ⟨rfl, ⟨rfl, trivial⟩⟩⟩⟩ ?_
        exact ok_F_holdAt_2 hb fu (x3 + (nI 1)) _ hf
    · rw [if_neg hc1] at hf
      refine t_cT (t := 48) (rfl : mfetch 4 7 = some (7, .if_icmp .ge 41, 3, 0, 0, 0)) rfl (k_ge hc1) ?_
      refine mEnds.stp 1 (pc' := 49) (l' := [some (.ref 23), some (.int x1), some (.ref b), some (.int x3)]) (st' := [.int (nI 1)]) (fun _ => rfl) ?_
      cases hf; exact mEnds.rt (fun _ => rfl)
def F_holdAt (x1 : Int32) (b : Nat) (s : sg) : Option Int32 :=
  F_holdAt_2 b x1 s FU (nI 0)
set_option maxRecDepth 100000 in
theorem ok_F_holdAt {x1 : Int32} {b : Nat} (hb : isH b) {s : sg} {rv : Int32} (hf : F_holdAt x1 b s = some rv) : mEnds [] 0 4 (0, [some (.ref 23), some (.int x1), some (.ref b), none], [], hp shC s, 0, 0) (some (.int rv), hp shC s, 0, 0) := by
  unfold F_holdAt at hf
  refine mEnds.stp 2 (pc' := 2) (l' := [some (.ref 23), some (.int x1), some (.ref b), some (.int (nI 0))]) (st' := []) (fun _ => rfl) ?_
  refine mEnds.cut (l := [some (.ref 23), some (.int x1), some (.ref b), some (.int (nI 0))]) ⟨rfl, ⟨rfl, ⟨rfl, ⟨rfl, trivial⟩⟩⟩⟩ ?_
  exact ok_F_holdAt_2 hb FU (nI 0) _ hf
def H_skyNow (b : Nat) (s : sg) : Option Int32 :=
  (midx ((s b 2) - (s b 2) / (nI 8) * (nI 8)) 8).bind fun j1 =>
  some (s (b + 7) j1)
set_option maxRecDepth 100000 in
theorem ok_H_skyNow {b : Nat} (hb : isH b) {s : sg} {rv : Int32} (hf : H_skyNow b s = some rv) : mEnds [] 0 14 (0, [some (.ref b)], [], hp shC s, 0, 0) (some (.int rv), hp shC s, 0, 0) := by
  unfold H_skyNow at hf
  refine mEnds.stp 1 (pc' := 1) (l' := [some (.ref b)]) (st' := [.ref b]) (fun _ => rfl) ?_
  refine t_gr (rfl : mfetch 14 1 = some (1, .getfield 30, 3, 1, 11, 0)) hb.1 rfl ?_
  refine mEnds.stp 1 (pc' := 5) (l' := [some (.ref b)]) (st' := [.ref b, .ref (b + 7)]) (fun _ => rfl) ?_
  refine t_gi (rfl : mfetch 14 5 = some (5, .getfield 43, 3, 1, 2, 0)) hb.1 rfl ?_
  refine mEnds.stp 2 (pc' := 11) (l' := [some (.ref b)]) (st' := [.int ((s b 2) - (s b 2) / (nI 8) * (nI 8)), .ref (b + 7)]) (fun _ => rfl) ?_
  obtain ⟨j1, hj1, hf⟩ := ob hf
  refine t_ia (rfl : mfetch 14 11 = some (11, .iaload, 1, 0, 0, 0)) hb.2.2.2.2.2.2.2 (isH_le hb 7) hj1 ?_
  cases hf; exact mEnds.rt (fun _ => rfl)
def H_hasWall (b : Nat) (x1 : Int32) (s : sg) : Option Int32 :=
  if x1 < 0 then
    some (nI 0)
  else
    if x1 < (s b 0) - (nI 1) then
      some (nI 1)
    else
      some (nI 0)
set_option maxRecDepth 100000 in
theorem ok_H_hasWall {b : Nat} {x1 : Int32} (hb : isH b) {s : sg} {rv : Int32} (hf : H_hasWall b x1 s = some rv) : mEnds [] 0 9 (0, [some (.ref b), some (.int x1)], [], hp shC s, 0, 0) (some (.int rv), hp shC s, 0, 0) := by
  unfold H_hasWall at hf
  refine mEnds.stp 1 (pc' := 1) (l' := [some (.ref b), some (.int x1)]) (st' := [.int x1]) (fun _ => rfl) ?_
  by_cases hc1 : x1 < 0
  · rw [if_pos hc1] at hf
    refine t_jT (t := 18) (rfl : mfetch 9 1 = some (1, .ifCond .lt 17, 3, 0, 0, 0)) rfl (k_lt hc1) ?_
    refine mEnds.stp 1 (pc' := 19) (l' := [some (.ref b), some (.int x1)]) (st' := [.int (nI 0)]) (fun _ => rfl) ?_
    cases hf; exact mEnds.rt (fun _ => rfl)
  · rw [if_neg hc1] at hf
    refine t_jF (rfl : mfetch 9 1 = some (1, .ifCond .lt 17, 3, 0, 0, 0)) (k_lt' hc1) ?_
    refine mEnds.stp 2 (pc' := 6) (l' := [some (.ref b), some (.int x1)]) (st' := [.ref b, .int x1]) (fun _ => rfl) ?_
    refine t_gi (rfl : mfetch 9 6 = some (6, .getfield 36, 3, 1, 0, 0)) hb.1 rfl ?_
    refine mEnds.stp 2 (pc' := 11) (l' := [some (.ref b), some (.int x1)]) (st' := [.int ((s b 0) - (nI 1)), .int x1]) (fun _ => rfl) ?_
    by_cases hc2 : x1 < (s b 0) - (nI 1)
    · rw [if_pos hc2] at hf
      refine t_cF (rfl : mfetch 9 11 = some (11, .if_icmp .ge 7, 3, 0, 0, 0)) (k_ge' hc2) ?_
      refine mEnds.stp 2 (pc' := 19) (l' := [some (.ref b), some (.int x1)]) (st' := [.int (nI 1)]) (fun _ => rfl) ?_
      cases hf; exact mEnds.rt (fun _ => rfl)
    · rw [if_neg hc2] at hf
      refine t_cT (t := 18) (rfl : mfetch 9 11 = some (11, .if_icmp .ge 7, 3, 0, 0, 0)) rfl (k_ge hc2) ?_
      refine mEnds.stp 1 (pc' := 19) (l' := [some (.ref b), some (.int x1)]) (st' := [.int (nI 0)]) (fun _ => rfl) ?_
      cases hf; exact mEnds.rt (fun _ => rfl)
def H_isOn (b : Nat) (x1 : Int32) (s : sg) : Option Int32 :=
  if ((s b 1) >>> (x1 &&& 31)) &&& (nI 1) = nI 1 then
    some (nI 1)
  else
    some (nI 0)
set_option maxRecDepth 100000 in
theorem ok_H_isOn {b : Nat} {x1 : Int32} (hb : isH b) {s : sg} {rv : Int32} (hf : H_isOn b x1 s = some rv) : mEnds [] 0 11 (0, [some (.ref b), some (.int x1)], [], hp shC s, 0, 0) (some (.int rv), hp shC s, 0, 0) := by
  unfold H_isOn at hf
  refine mEnds.stp 1 (pc' := 1) (l' := [some (.ref b), some (.int x1)]) (st' := [.ref b]) (fun _ => rfl) ?_
  refine t_gi (rfl : mfetch 11 1 = some (1, .getfield 40, 3, 1, 1, 0)) hb.1 rfl ?_
  refine mEnds.stp 5 (pc' := 9) (l' := [some (.ref b), some (.int x1)]) (st' := [.int (nI 1), .int (((s b 1) >>> (x1 &&& 31)) &&& (nI 1))]) (fun _ => rfl) ?_
  by_cases hc1 : ((s b 1) >>> (x1 &&& 31)) &&& (nI 1) = nI 1
  · rw [if_pos hc1] at hf
    refine t_cF (rfl : mfetch 11 9 = some (9, .if_icmp .ne 7, 3, 0, 0, 0)) (k_ne' hc1) ?_
    refine mEnds.stp 2 (pc' := 17) (l' := [some (.ref b), some (.int x1)]) (st' := [.int (nI 1)]) (fun _ => rfl) ?_
    cases hf; exact mEnds.rt (fun _ => rfl)
  · rw [if_neg hc1] at hf
    refine t_cT (t := 16) (rfl : mfetch 11 9 = some (9, .if_icmp .ne 7, 3, 0, 0, 0)) rfl (k_ne hc1) ?_
    refine mEnds.stp 1 (pc' := 17) (l' := [some (.ref b), some (.int x1)]) (st' := [.int (nI 0)]) (fun _ => rfl) ?_
    cases hf; exact mEnds.rt (fun _ => rfl)
def H_burn (b : Nat) (x1 : Int32) (s : sg) : Option (Int32 × sg) :=
  (some (up s b 3 (if (s b 3) + (nI 1) < nI 9999 then (s b 3) + (nI 1) else nI 9999))).bind fun s1 =>
  (midx x1 6).bind fun j1 =>
  some (s1 (b + 3) j1, s1)
set_option maxRecDepth 100000 in
theorem ok_H_burn {b : Nat} {x1 : Int32} (hb : isH b) {s : sg} {rv : (Int32 × sg)} (hf : H_burn b x1 s = some rv) : mEnds [] 0 25 (0, [some (.ref b), some (.int x1)], [], hp shC s, 0, 0) (some (.int rv.1), hp shC rv.2, 0, 0) := by
  unfold H_burn at hf
  refine mEnds.stp 3 (pc' := 5) (l' := [some (.ref b), some (.int x1)]) (st' := [.ref b, .int (nI 9999), .ref b]) (fun _ => rfl) ?_
  refine t_gi (rfl : mfetch 25 5 = some (5, .getfield 46, 3, 1, 3, 0)) hb.1 rfl ?_
  refine mEnds.stp 3 (pc' := 13) (l' := [some (.ref b), some (.int x1)]) (st' := [.int (if (s b 3) + (nI 1) < nI 9999 then (s b 3) + (nI 1) else nI 9999), .ref b]) (fun _ => rfl) ?_
  obtain ⟨s1, hs1, hf⟩ := ob hf
  refine t_pi (rfl : mfetch 25 13 = some (13, .putfield 46, 3, 1, 3, 0)) hb.1 rfl (isH_le hb 0) rfl hs1 ?_
  refine mEnds.stp 1 (pc' := 17) (l' := [some (.ref b), some (.int x1)]) (st' := [.ref b]) (fun _ => rfl) ?_
  refine t_gr (rfl : mfetch 25 17 = some (17, .getfield 18, 3, 1, 7, 0)) hb.1 rfl ?_
  refine mEnds.stp 1 (pc' := 21) (l' := [some (.ref b), some (.int x1)]) (st' := [.int x1, .ref (b + 3)]) (fun _ => rfl) ?_
  obtain ⟨j1, hj1, hf⟩ := ob hf
  refine t_ia (rfl : mfetch 25 21 = some (21, .iaload, 1, 0, 0, 0)) hb.2.2.2.1 (isH_le hb 3) hj1 ?_
  exact mEnds.rti (Option.some.inj hf) (fun _ => rfl)
def H_hasTongue (b : Nat) (x1 : Int32) (s : sg) : Option Int32 :=
  (midx x1 6).bind fun j1 =>
  if s (b + 4) j1 = (-1) then
    some (nI 0)
  else
    some (nI 1)
set_option maxRecDepth 100000 in
theorem ok_H_hasTongue {b : Nat} {x1 : Int32} (hb : isH b) {s : sg} {rv : Int32} (hf : H_hasTongue b x1 s = some rv) : mEnds [] 0 10 (0, [some (.ref b), some (.int x1)], [], hp shC s, 0, 0) (some (.int rv), hp shC s, 0, 0) := by
  unfold H_hasTongue at hf
  refine mEnds.stp 1 (pc' := 1) (l' := [some (.ref b), some (.int x1)]) (st' := [.ref b]) (fun _ => rfl) ?_
  refine t_gr (rfl : mfetch 10 1 = some (1, .getfield 21, 3, 1, 8, 0)) hb.1 rfl ?_
  refine mEnds.stp 1 (pc' := 5) (l' := [some (.ref b), some (.int x1)]) (st' := [.int x1, .ref (b + 4)]) (fun _ => rfl) ?_
  obtain ⟨j1, hj1, hf⟩ := ob hf
  refine t_ia (rfl : mfetch 10 5 = some (5, .iaload, 1, 0, 0, 0)) hb.2.2.2.2.1 (isH_le hb 4) hj1 ?_
  refine mEnds.stp 1 (pc' := 7) (l' := [some (.ref b), some (.int x1)]) (st' := [.int (-1), .int (s (b + 4) j1)]) (fun _ => rfl) ?_
  by_cases hc1 : s (b + 4) j1 = (-1)
  · rw [if_pos hc1] at hf
    refine t_cT (t := 14) (rfl : mfetch 10 7 = some (7, .if_icmp .eq 7, 3, 0, 0, 0)) rfl (k_eq hc1) ?_
    refine mEnds.stp 1 (pc' := 15) (l' := [some (.ref b), some (.int x1)]) (st' := [.int (nI 0)]) (fun _ => rfl) ?_
    cases hf; exact mEnds.rt (fun _ => rfl)
  · rw [if_neg hc1] at hf
    refine t_cF (rfl : mfetch 10 7 = some (7, .if_icmp .eq 7, 3, 0, 0, 0)) (k_eq' hc1) ?_
    refine mEnds.stp 2 (pc' := 15) (l' := [some (.ref b), some (.int x1)]) (st' := [.int (nI 1)]) (fun _ => rfl) ?_
    cases hf; exact mEnds.rt (fun _ => rfl)
def H_lowOf (b : Nat) (x1 : Int32) (s : sg) : Option Int32 :=
  (midx x1 6).bind fun j1 =>
  (midx x1 6).bind fun j2 =>
  (midx (s (b + 4) j2) 4).bind fun j3 =>
  some ((s (b + 5) j1) + ((roA 1).getD j3 0))
set_option maxRecDepth 100000 in
theorem ok_H_lowOf {b : Nat} {x1 : Int32} (hb : isH b) {s : sg} {rv : Int32} (hf : H_lowOf b x1 s = some rv) : mEnds [] 0 12 (0, [some (.ref b), some (.int x1)], [], hp shC s, 0, 0) (some (.int rv), hp shC s, 0, 0) := by
  unfold H_lowOf at hf
  refine mEnds.stp 1 (pc' := 1) (l' := [some (.ref b), some (.int x1)]) (st' := [.ref b]) (fun _ => rfl) ?_
  refine t_gr (rfl : mfetch 12 1 = some (1, .getfield 24, 3, 1, 9, 0)) hb.1 rfl ?_
  refine mEnds.stp 1 (pc' := 5) (l' := [some (.ref b), some (.int x1)]) (st' := [.int x1, .ref (b + 5)]) (fun _ => rfl) ?_
  obtain ⟨j1, hj1, hf⟩ := ob hf
  refine t_ia (rfl : mfetch 12 5 = some (5, .iaload, 1, 0, 0, 0)) hb.2.2.2.2.2.1 (isH_le hb 5) hj1 ?_
  refine mEnds.stp 2 (pc' := 10) (l' := [some (.ref b), some (.int x1)]) (st' := [.ref b, .ref 1, .int (s (b + 5) j1)]) (fun _ => rfl) ?_
  refine t_gr (rfl : mfetch 12 10 = some (10, .getfield 21, 3, 1, 8, 0)) hb.1 rfl ?_
  refine mEnds.stp 1 (pc' := 14) (l' := [some (.ref b), some (.int x1)]) (st' := [.int x1, .ref (b + 4), .ref 1, .int (s (b + 5) j1)]) (fun _ => rfl) ?_
  obtain ⟨j2, hj2, hf⟩ := ob hf
  refine t_ia (rfl : mfetch 12 14 = some (14, .iaload, 1, 0, 0, 0)) hb.2.2.2.2.1 (isH_le hb 4) hj2 ?_
  obtain ⟨j3, hj3, hf⟩ := ob hf
  refine t_ro (rfl : mfetch 12 15 = some (15, .iaload, 1, 0, 0, 0)) (by decide) hj3 ?_
  refine mEnds.stp 1 (pc' := 17) (l' := [some (.ref b), some (.int x1)]) (st' := [.int ((s (b + 5) j1) + ((roA 1).getD j3 0))]) (fun _ => rfl) ?_
  cases hf; exact mEnds.rt (fun _ => rfl)
def H_highOf (b : Nat) (x1 : Int32) (s : sg) : Option Int32 :=
  (midx x1 6).bind fun j1 =>
  (midx x1 6).bind fun j2 =>
  (midx (s (b + 4) j2) 4).bind fun j3 =>
  some ((s (b + 5) j1) + ((roA 2).getD j3 0))
set_option maxRecDepth 100000 in
theorem ok_H_highOf {b : Nat} {x1 : Int32} (hb : isH b) {s : sg} {rv : Int32} (hf : H_highOf b x1 s = some rv) : mEnds [] 0 13 (0, [some (.ref b), some (.int x1)], [], hp shC s, 0, 0) (some (.int rv), hp shC s, 0, 0) := by
  unfold H_highOf at hf
  refine mEnds.stp 1 (pc' := 1) (l' := [some (.ref b), some (.int x1)]) (st' := [.ref b]) (fun _ => rfl) ?_
  refine t_gr (rfl : mfetch 13 1 = some (1, .getfield 24, 3, 1, 9, 0)) hb.1 rfl ?_
  refine mEnds.stp 1 (pc' := 5) (l' := [some (.ref b), some (.int x1)]) (st' := [.int x1, .ref (b + 5)]) (fun _ => rfl) ?_
  obtain ⟨j1, hj1, hf⟩ := ob hf
  refine t_ia (rfl : mfetch 13 5 = some (5, .iaload, 1, 0, 0, 0)) hb.2.2.2.2.2.1 (isH_le hb 5) hj1 ?_
  refine mEnds.stp 2 (pc' := 10) (l' := [some (.ref b), some (.int x1)]) (st' := [.ref b, .ref 2, .int (s (b + 5) j1)]) (fun _ => rfl) ?_
  refine t_gr (rfl : mfetch 13 10 = some (10, .getfield 21, 3, 1, 8, 0)) hb.1 rfl ?_
  refine mEnds.stp 1 (pc' := 14) (l' := [some (.ref b), some (.int x1)]) (st' := [.int x1, .ref (b + 4), .ref 2, .int (s (b + 5) j1)]) (fun _ => rfl) ?_
  obtain ⟨j2, hj2, hf⟩ := ob hf
  refine t_ia (rfl : mfetch 13 14 = some (14, .iaload, 1, 0, 0, 0)) hb.2.2.2.2.1 (isH_le hb 4) hj2 ?_
  obtain ⟨j3, hj3, hf⟩ := ob hf
  refine t_ro (rfl : mfetch 13 15 = some (15, .iaload, 1, 0, 0, 0)) (by decide) hj3 ?_
  refine mEnds.stp 1 (pc' := 17) (l' := [some (.ref b), some (.int x1)]) (st' := [.int ((s (b + 5) j1) + ((roA 2).getD j3 0))]) (fun _ => rfl) ?_
  cases hf; exact mEnds.rt (fun _ => rfl)
def H_switchAll_67 (k2 : Int32 → sg → Option sg) (b : Nat) (x1 : Int32) (y0 : Int32) (s : sg) : Option sg :=
  if y0 = 0 then
    k2 (x1 + (nI 1)) s
  else
    (some (up s b 1 ((s b 1) ^^^ ((nI 1) <<< (x1 &&& 31))))).bind fun s1 =>
    (some (up s1 b 4 (if (s1 b 4) + (nI 1) < nI 9999 then (s1 b 4) + (nI 1) else nI 9999))).bind fun s2 =>
    k2 (x1 + (nI 1)) s2
set_option maxRecDepth 100000 in
theorem ok_H_switchAll_67 {k2 : Int32 → sg → Option sg} {b : Nat} {x1 : Int32} {y0 : Int32} (hb : isH b) {s : sg} {rv : sg} (hk2 : ∀ (x1 : Int32) (s : sg) (rv : sg), k2 x1 s = some rv → mEnds [] 1 26 (2, [some (.ref b), some (.int x1), none], [], hp shC s, 0, 0) (none, hp shC rv, 0, 0)) (hf : H_switchAll_67 k2 b x1 y0 s = some rv) : mEnds [] 1 26 (67, [some (.ref b), some (.int x1), none], [.int y0], hp shC s, 0, 0) (none, hp shC rv, 0, 0) := by
  unfold H_switchAll_67 at hf
  refine mEnds.stp 2 (pc' := 69) (l' := [some (.ref b), some (.int x1), some (.int y0)]) (st' := [.int y0]) (fun _ => rfl) ?_
  by_cases hc1 : y0 = 0
  · rw [if_pos hc1] at hf
    refine t_jT (t := 100) (rfl : mfetch 26 69 = some (69, .ifCond .eq 31, 3, 0, 0, 0)) rfl (k_eq hc1) ?_
    refine mEnds.stp 2 (pc' := 2) (l' := [some (.ref b), some (.int (x1 + (nI 1))), some (.int y0)]) (st' := []) (fun _ => rfl) ?_
    refine mEnds.cut (l := [some (.ref b), some (.int (x1 + (nI 1))), none]) ⟨rfl, ⟨rfl, trivial⟩⟩ ?_
    exact hk2 (x1 + (nI 1)) s _ hf
  · rw [if_neg hc1] at hf
    refine t_jF (rfl : mfetch 26 69 = some (69, .ifCond .eq 31, 3, 0, 0, 0)) (k_eq' hc1) ?_
    refine mEnds.stp 2 (pc' := 74) (l' := [some (.ref b), some (.int x1), some (.int y0)]) (st' := [.ref b, .ref b]) (fun _ => rfl) ?_
    refine t_gi (rfl : mfetch 26 74 = some (74, .getfield 40, 3, 1, 1, 0)) hb.1 rfl ?_
    refine mEnds.stp 4 (pc' := 81) (l' := [some (.ref b), some (.int x1), some (.int y0)]) (st' := [.int ((s b 1) ^^^ ((nI 1) <<< (x1 &&& 31))), .ref b]) (fun _ => rfl) ?_
    obtain ⟨s1, hs1, hf⟩ := ob hf
    refine t_pi (rfl : mfetch 26 81 = some (81, .putfield 40, 3, 1, 1, 0)) hb.1 rfl (isH_le hb 0) rfl hs1 ?_
    refine mEnds.stp 3 (pc' := 89) (l' := [some (.ref b), some (.int x1), some (.int y0)]) (st' := [.ref b, .int (nI 9999), .ref b]) (fun _ => rfl) ?_
    refine t_gi (rfl : mfetch 26 89 = some (89, .getfield 49, 3, 1, 4, 0)) hb.1 rfl ?_
    refine mEnds.stp 3 (pc' := 97) (l' := [some (.ref b), some (.int x1), some (.int y0)]) (st' := [.int (if (s1 b 4) + (nI 1) < nI 9999 then (s1 b 4) + (nI 1) else nI 9999), .ref b]) (fun _ => rfl) ?_
    obtain ⟨s2, hs2, hf⟩ := ob hf
    refine t_pi (rfl : mfetch 26 97 = some (97, .putfield 49, 3, 1, 4, 0)) hb.1 rfl (isH_le hb 0) rfl hs2 ?_
    refine mEnds.stp 2 (pc' := 2) (l' := [some (.ref b), some (.int (x1 + (nI 1))), some (.int y0)]) (st' := []) (fun _ => rfl) ?_
    refine mEnds.cut (l := [some (.ref b), some (.int (x1 + (nI 1))), none]) ⟨rfl, ⟨rfl, trivial⟩⟩ ?_
    exact hk2 (x1 + (nI 1)) s2 _ hf
def H_switchAll_2 (b : Nat) : Nat → Int32 → sg → Option sg
  | 0, _, _ => none
  | fu + 1, x1, s =>
  if x1 < s b 0 then
    (H_hasTongue b x1 s).bind fun v1 =>
    if v1 = 0 then
      H_switchAll_2 b fu (x1 + (nI 1)) s
    else
      (H_isOn b x1 s).bind fun v2 =>
      if v2 = 0 then
        (midx x1 6).bind fun j1 =>
        (H_lowOf b x1 s).bind fun v3 =>
        if v3 < s (b + 1) j1 then
          H_switchAll_67 (H_switchAll_2 b fu) b x1 (nI 0) s
        else
          H_switchAll_67 (H_switchAll_2 b fu) b x1 (nI 1) s
      else
        (midx x1 6).bind fun j2 =>
        (H_highOf b x1 s).bind fun v4 =>
        if s (b + 1) j2 < v4 then
          H_switchAll_67 (H_switchAll_2 b fu) b x1 (nI 0) s
        else
          H_switchAll_67 (H_switchAll_2 b fu) b x1 (nI 1) s
  else
    some s
set_option maxRecDepth 100000 in
theorem ok_H_switchAll_2 {b : Nat} (hb : isH b) : ∀ (fu : Nat) (x1 : Int32) (s : sg) (rv : sg), H_switchAll_2 b fu x1 s = some rv → mEnds [] 1 26 (2, [some (.ref b), some (.int x1), none], [], hp shC s, 0, 0) (none, hp shC rv, 0, 0)
  | 0, _, _, _, hf => by cases hf
  | fu + 1, x1, s, rv, hf => by
    rw [H_switchAll_2] at hf
    refine mEnds.stp 2 (pc' := 4) (l' := [some (.ref b), some (.int x1), none]) (st' := [.ref b, .int x1]) (fun _ => rfl) ?_
    refine t_gi (rfl : mfetch 26 4 = some (4, .getfield 36, 3, 1, 0, 0)) hb.1 rfl ?_
    by_cases hc1 : x1 < s b 0
    · rw [if_pos hc1] at hf
      refine t_cF (rfl : mfetch 26 7 = some (7, .if_icmp .ge 99, 3, 0, 0, 0)) (k_ge' hc1) ?_
      refine mEnds.stp 2 (pc' := 12) (l' := [some (.ref b), some (.int x1), none]) (st' := [.int x1, .ref b]) (fun _ => rfl) ?_
      obtain ⟨v1, hv1, hf⟩ := ob hf
      refine t_cv (as := [.int x1]) (st := []) (rfl : mfetch 26 12 = some (12, .invokevirtual 82, 3, 10, 0, 0)) hb.1 rfl rfl rfl rfl (ok_H_hasTongue hb hv1) ?_
      by_cases hc2 : v1 = 0
      · rw [if_pos hc2] at hf
        refine t_jT (t := 100) (rfl : mfetch 26 15 = some (15, .ifCond .eq 85, 3, 0, 0, 0)) rfl (k_eq hc2) ?_
        refine mEnds.stp 2 (pc' := 2) (l' := [some (.ref b), some (.int (x1 + (nI 1))), none]) (st' := []) (fun _ => rfl) ?_
        refine mEnds.cut (l := [some (.ref b), some (.int (x1 + (nI 1))), none]) ⟨rfl, ⟨rfl, trivial⟩⟩ ?_
        exact ok_H_switchAll_2 hb fu (x1 + (nI 1)) s _ hf
      · rw [if_neg hc2] at hf
        refine t_jF (rfl : mfetch 26 15 = some (15, .ifCond .eq 85, 3, 0, 0, 0)) (k_eq' hc2) ?_
        refine mEnds.stp 2 (pc' := 20) (l' := [some (.ref b), some (.int x1), none]) (st' := [.int x1, .ref b]) (fun _ => rfl) ?_
        obtain ⟨v2, hv2, hf⟩ := ob hf
        refine t_cv (as := [.int x1]) (st := []) (rfl : mfetch 26 20 = some (20, .invokevirtual 113, 3, 11, 0, 0)) hb.1 rfl rfl rfl rfl (ok_H_isOn hb hv2) ?_
        by_cases hc3 : v2 = 0
        · rw [if_pos hc3] at hf
          refine t_jT (t := 48) (rfl : mfetch 26 23 = some (23, .ifCond .eq 25, 3, 0, 0, 0)) rfl (k_eq hc3) ?_
          refine mEnds.stp 1 (pc' := 49) (l' := [some (.ref b), some (.int x1), none]) (st' := [.ref b]) (fun _ => rfl) ?_
          refine t_gr (rfl : mfetch 26 49 = some (49, .getfield 9, 3, 1, 5, 0)) hb.1 rfl ?_
          refine mEnds.stp 1 (pc' := 53) (l' := [some (.ref b), some (.int x1), none]) (st' := [.int x1, .ref (b + 1)]) (fun _ => rfl) ?_
          obtain ⟨j1, hj1, hf⟩ := ob hf
          refine t_ia (rfl : mfetch 26 53 = some (53, .iaload, 1, 0, 0, 0)) hb.2.1 (isH_le hb 1) hj1 ?_
          refine mEnds.stp 2 (pc' := 56) (l' := [some (.ref b), some (.int x1), none]) (st' := [.int x1, .ref b, .int (s (b + 1) j1)]) (fun _ => rfl) ?_
          obtain ⟨v3, hv3, hf⟩ := ob hf
          refine t_cv (as := [.int x1]) (st := [.int (s (b + 1) j1)]) (rfl : mfetch 26 56 = some (56, .invokevirtual 126, 3, 12, 0, 0)) hb.1 rfl rfl rfl rfl (ok_H_lowOf hb hv3) ?_
          by_cases hc4 : v3 < s (b + 1) j1
          · rw [if_pos hc4] at hf
            refine t_cT (t := 66) (rfl : mfetch 26 59 = some (59, .if_icmp .gt 7, 3, 0, 0, 0)) rfl (k_gt hc4) ?_
            refine mEnds.stp 1 (pc' := 67) (l' := [some (.ref b), some (.int x1), none]) (st' := [.int (nI 0)]) (fun _ => rfl) ?_
            refine mEnds.cut (l := [some (.ref b), some (.int x1), none]) ⟨rfl, ⟨rfl, trivial⟩⟩ ?_
            exact ok_H_switchAll_67 hb (ok_H_switchAll_2 hb fu) hf
          · rw [if_neg hc4] at hf
            refine t_cF (rfl : mfetch 26 59 = some (59, .if_icmp .gt 7, 3, 0, 0, 0)) (k_gt' hc4) ?_
            refine mEnds.stp 2 (pc' := 67) (l' := [some (.ref b), some (.int x1), none]) (st' := [.int (nI 1)]) (fun _ => rfl) ?_
            refine mEnds.cut (l := [some (.ref b), some (.int x1), none]) ⟨rfl, ⟨rfl, trivial⟩⟩ ?_
            exact ok_H_switchAll_67 hb (ok_H_switchAll_2 hb fu) hf
        · rw [if_neg hc3] at hf
          refine t_jF (rfl : mfetch 26 23 = some (23, .ifCond .eq 25, 3, 0, 0, 0)) (k_eq' hc3) ?_
          refine mEnds.stp 1 (pc' := 27) (l' := [some (.ref b), some (.int x1), none]) (st' := [.ref b]) (fun _ => rfl) ?_
          refine t_gr (rfl : mfetch 26 27 = some (27, .getfield 9, 3, 1, 5, 0)) hb.1 rfl ?_
          refine mEnds.stp 1 (pc' := 31) (l' := [some (.ref b), some (.int x1), none]) (st' := [.int x1, .ref (b + 1)]) (fun _ => rfl) ?_
          obtain ⟨j2, hj2, hf⟩ := ob hf
          refine t_ia (rfl : mfetch 26 31 = some (31, .iaload, 1, 0, 0, 0)) hb.2.1 (isH_le hb 1) hj2 ?_
          refine mEnds.stp 2 (pc' := 34) (l' := [some (.ref b), some (.int x1), none]) (st' := [.int x1, .ref b, .int (s (b + 1) j2)]) (fun _ => rfl) ?_
          obtain ⟨v4, hv4, hf⟩ := ob hf
          refine t_cv (as := [.int x1]) (st := [.int (s (b + 1) j2)]) (rfl : mfetch 26 34 = some (34, .invokevirtual 123, 3, 13, 0, 0)) hb.1 rfl rfl rfl rfl (ok_H_highOf hb hv4) ?_
          by_cases hc5 : s (b + 1) j2 < v4
          · rw [if_pos hc5] at hf
            refine t_cT (t := 44) (rfl : mfetch 26 37 = some (37, .if_icmp .lt 7, 3, 0, 0, 0)) rfl (k_lt hc5) ?_
            refine mEnds.stp 2 (pc' := 67) (l' := [some (.ref b), some (.int x1), none]) (st' := [.int (nI 0)]) (fun _ => rfl) ?_
            refine mEnds.cut (l := [some (.ref b), some (.int x1), none]) ⟨rfl, ⟨rfl, trivial⟩⟩ ?_
            exact ok_H_switchAll_67 hb (ok_H_switchAll_2 hb fu) hf
          · rw [if_neg hc5] at hf
            refine t_cF (rfl : mfetch 26 37 = some (37, .if_icmp .lt 7, 3, 0, 0, 0)) (k_lt' hc5) ?_
            refine mEnds.stp 2 (pc' := 67) (l' := [some (.ref b), some (.int x1), none]) (st' := [.int (nI 1)]) (fun _ => rfl) ?_
            refine mEnds.cut (l := [some (.ref b), some (.int x1), none]) ⟨rfl, ⟨rfl, trivial⟩⟩ ?_
            exact ok_H_switchAll_67 hb (ok_H_switchAll_2 hb fu) hf
    · rw [if_neg hc1] at hf
      refine t_cT (t := 106) (rfl : mfetch 26 7 = some (7, .if_icmp .ge 99, 3, 0, 0, 0)) rfl (k_ge hc1) ?_
      cases hf; exact mEnds.rt (fun _ => rfl)
def H_switchAll (b : Nat) (s : sg) : Option sg :=
  H_switchAll_2 b FU (nI 0) s
set_option maxRecDepth 100000 in
theorem ok_H_switchAll {b : Nat} (hb : isH b) {s : sg} {rv : sg} (hf : H_switchAll b s = some rv) : mEnds [] 1 26 (0, [some (.ref b), none, none], [], hp shC s, 0, 0) (none, hp shC rv, 0, 0) := by
  unfold H_switchAll at hf
  refine mEnds.stp 2 (pc' := 2) (l' := [some (.ref b), some (.int (nI 0)), none]) (st' := []) (fun _ => rfl) ?_
  refine mEnds.cut (l := [some (.ref b), some (.int (nI 0)), none]) ⟨rfl, ⟨rfl, trivial⟩⟩ ?_
  exact ok_H_switchAll_2 hb FU (nI 0) s _ hf
def H_passHourBy_106 (k9 : Int32 → Int32 → sg → Option sg) (b : Nat) (x1 : Int32) (x2 : Int32) (x3 : Int32) (x4 : Int32) (x5 : Int32) (x6 : Int32) (y0 : Int32) (s : sg) : Option sg :=
  (midx x4 6).bind fun j1 =>
  (midx x4 6).bind fun j2 =>
  (some (up s (b + 1) j2 (if nI 0 < if ((((s (b + 1) j1) + x3) - x5) - x6) + y0 < nI 99 then ((((s (b + 1) j1) + x3) - x5) - x6) + y0 else nI 99 then if ((((s (b + 1) j1) + x3) - x5) - x6) + y0 < nI 99 then ((((s (b + 1) j1) + x3) - x5) - x6) + y0 else nI 99 else nI 0))).bind fun s1 =>
  k9 x5 (x4 + (nI 1)) s1
set_option maxRecDepth 100000 in
theorem ok_H_passHourBy_106 {k9 : Int32 → Int32 → sg → Option sg} {b : Nat} {x1 : Int32} {x2 : Int32} {x3 : Int32} {x4 : Int32} {x5 : Int32} {x6 : Int32} {y0 : Int32} (hb : isH b) {s : sg} {rv : sg} (hk9 : ∀ (x3 : Int32) (x4 : Int32) (s : sg) (rv : sg), k9 x3 x4 s = some rv → mEnds [] 2 24 (9, [some (.ref b), some (.int x1), some (.int x2), some (.int x3), some (.int x4), none, none, none, none], [], hp shC s, 0, 0) (none, hp shC rv, 0, 0)) (hf : H_passHourBy_106 k9 b x1 x2 x3 x4 x5 x6 y0 s = some rv) : mEnds [] 2 24 (106, [some (.ref b), some (.int x1), some (.int x2), some (.int x3), some (.int x4), some (.int x5), some (.int x6), none, none], [.int y0], hp shC s, 0, 0) (none, hp shC rv, 0, 0) := by
  unfold H_passHourBy_106 at hf
  refine mEnds.stp 2 (pc' := 109) (l' := [some (.ref b), some (.int x1), some (.int x2), some (.int x3), some (.int x4), some (.int x5), some (.int x6), some (.int y0), none]) (st' := [.ref b]) (fun _ => rfl) ?_
  refine t_gr (rfl : mfetch 24 109 = some (109, .getfield 9, 3, 1, 5, 0)) hb.1 rfl ?_
  refine mEnds.stp 1 (pc' := 114) (l' := [some (.ref b), some (.int x1), some (.int x2), some (.int x3), some (.int x4), some (.int x5), some (.int x6), some (.int y0), none]) (st' := [.int x4, .ref (b + 1)]) (fun _ => rfl) ?_
  obtain ⟨j1, hj1, hf⟩ := ob hf
  refine t_ia (rfl : mfetch 24 114 = some (114, .iaload, 1, 0, 0, 0)) hb.2.1 (isH_le hb 1) hj1 ?_
  refine mEnds.stp 10 (pc' := 129) (l' := [some (.ref b), some (.int x1), some (.int x2), some (.int x3), some (.int x4), some (.int x5), some (.int x6), some (.int y0), some (.int (((((s (b + 1) j1) + x3) - x5) - x6) + y0))]) (st' := [.ref b]) (fun _ => rfl) ?_
  refine t_gr (rfl : mfetch 24 129 = some (129, .getfield 9, 3, 1, 5, 0)) hb.1 rfl ?_
  refine mEnds.stp 6 (pc' := 145) (l' := [some (.ref b), some (.int x1), some (.int x2), some (.int x3), some (.int x4), some (.int x5), some (.int x6), some (.int y0), some (.int (((((s (b + 1) j1) + x3) - x5) - x6) + y0))]) (st' := [.int (if nI 0 < if ((((s (b + 1) j1) + x3) - x5) - x6) + y0 < nI 99 then ((((s (b + 1) j1) + x3) - x5) - x6) + y0 else nI 99 then if ((((s (b + 1) j1) + x3) - x5) - x6) + y0 < nI 99 then ((((s (b + 1) j1) + x3) - x5) - x6) + y0 else nI 99 else nI 0), .int x4, .ref (b + 1)]) (fun _ => rfl) ?_
  obtain ⟨j2, hj2, hf⟩ := ob hf
  obtain ⟨s1, hs1, hf⟩ := ob hf
  refine t_is (rfl : mfetch 24 145 = some (145, .iastore, 1, 0, 0, 0)) hb.2.1 (isH_le hb 1) hj2 hs1 ?_
  refine mEnds.stp 4 (pc' := 9) (l' := [some (.ref b), some (.int x1), some (.int x2), some (.int x5), some (.int (x4 + (nI 1))), some (.int x5), some (.int x6), some (.int y0), some (.int (((((s (b + 1) j1) + x3) - x5) - x6) + y0))]) (st' := []) (fun _ => rfl) ?_
  refine mEnds.cut (l := [some (.ref b), some (.int x1), some (.int x2), some (.int x5), some (.int (x4 + (nI 1))), none, none, none, none]) ⟨rfl, ⟨rfl, ⟨rfl, ⟨rfl, ⟨rfl, trivial⟩⟩⟩⟩⟩ ?_
  exact hk9 x5 (x4 + (nI 1)) s1 _ hf
def H_passHourBy_105 (k9 : Int32 → Int32 → sg → Option sg) (b : Nat) (x1 : Int32) (x2 : Int32) (x3 : Int32) (x4 : Int32) (x5 : Int32) (x6 : Int32) (s : sg) : Option sg :=
  H_passHourBy_106 k9 b x1 x2 x3 x4 x5 x6 (nI 0) s
set_option maxRecDepth 100000 in
theorem ok_H_passHourBy_105 {k9 : Int32 → Int32 → sg → Option sg} {b : Nat} {x1 : Int32} {x2 : Int32} {x3 : Int32} {x4 : Int32} {x5 : Int32} {x6 : Int32} (hb : isH b) {s : sg} {rv : sg} (hk9 : ∀ (x3 : Int32) (x4 : Int32) (s : sg) (rv : sg), k9 x3 x4 s = some rv → mEnds [] 2 24 (9, [some (.ref b), some (.int x1), some (.int x2), some (.int x3), some (.int x4), none, none, none, none], [], hp shC s, 0, 0) (none, hp shC rv, 0, 0)) (hf : H_passHourBy_105 k9 b x1 x2 x3 x4 x5 x6 s = some rv) : mEnds [] 2 24 (105, [some (.ref b), some (.int x1), some (.int x2), some (.int x3), some (.int x4), some (.int x5), some (.int x6), none, none], [], hp shC s, 0, 0) (none, hp shC rv, 0, 0) := by
  unfold H_passHourBy_105 at hf
  refine mEnds.stp 1 (pc' := 106) (l' := [some (.ref b), some (.int x1), some (.int x2), some (.int x3), some (.int x4), some (.int x5), some (.int x6), none, none]) (st' := [.int (nI 0)]) (fun _ => rfl) ?_
  refine mEnds.cut (l := [some (.ref b), some (.int x1), some (.int x2), some (.int x3), some (.int x4), some (.int x5), some (.int x6), none, none]) ⟨rfl, ⟨rfl, ⟨rfl, ⟨rfl, ⟨rfl, ⟨rfl, ⟨rfl, trivial⟩⟩⟩⟩⟩⟩⟩ ?_
  exact ok_H_passHourBy_106 hb hk9 hf
def H_passHourBy_59 (k9 : Int32 → Int32 → sg → Option sg) (b : Nat) (x1 : Int32) (x2 : Int32) (x3 : Int32) (x4 : Int32) (y0 : Int32) (s : sg) : Option sg :=
  (midx x4 6).bind fun j1 =>
  (midx x4 6).bind fun j2 =>
  (H_isOn b x4 s).bind fun v1 =>
  if v1 = 0 then
    H_passHourBy_105 k9 b x1 x2 x3 x4 y0 (((s (b + 2) j1) * ((s (b + 1) j2) - x1)) / (nI 10)) s
  else
    if x2 = 0 then
      (H_burn b x4 s).bind fun v2 =>
      H_passHourBy_106 k9 b x1 x2 x3 x4 y0 (((s (b + 2) j1) * ((s (b + 1) j2) - x1)) / (nI 10)) v2.1 v2.2
    else
      H_passHourBy_105 k9 b x1 x2 x3 x4 y0 (((s (b + 2) j1) * ((s (b + 1) j2) - x1)) / (nI 10)) s
set_option maxRecDepth 100000 in
theorem ok_H_passHourBy_59 {k9 : Int32 → Int32 → sg → Option sg} {b : Nat} {x1 : Int32} {x2 : Int32} {x3 : Int32} {x4 : Int32} {y0 : Int32} (hb : isH b) {s : sg} {rv : sg} (hk9 : ∀ (x3 : Int32) (x4 : Int32) (s : sg) (rv : sg), k9 x3 x4 s = some rv → mEnds [] 2 24 (9, [some (.ref b), some (.int x1), some (.int x2), some (.int x3), some (.int x4), none, none, none, none], [], hp shC s, 0, 0) (none, hp shC rv, 0, 0)) (hf : H_passHourBy_59 k9 b x1 x2 x3 x4 y0 s = some rv) : mEnds [] 2 24 (59, [some (.ref b), some (.int x1), some (.int x2), some (.int x3), some (.int x4), none, none, none, none], [.int y0], hp shC s, 0, 0) (none, hp shC rv, 0, 0) := by
  unfold H_passHourBy_59 at hf
  refine mEnds.stp 2 (pc' := 62) (l' := [some (.ref b), some (.int x1), some (.int x2), some (.int x3), some (.int x4), some (.int y0), none, none, none]) (st' := [.ref b]) (fun _ => rfl) ?_
  refine t_gr (rfl : mfetch 24 62 = some (62, .getfield 15, 3, 1, 6, 0)) hb.1 rfl ?_
  refine mEnds.stp 1 (pc' := 67) (l' := [some (.ref b), some (.int x1), some (.int x2), some (.int x3), some (.int x4), some (.int y0), none, none, none]) (st' := [.int x4, .ref (b + 2)]) (fun _ => rfl) ?_
  obtain ⟨j1, hj1, hf⟩ := ob hf
  refine t_ia (rfl : mfetch 24 67 = some (67, .iaload, 1, 0, 0, 0)) hb.2.2.1 (isH_le hb 2) hj1 ?_
  refine mEnds.stp 1 (pc' := 69) (l' := [some (.ref b), some (.int x1), some (.int x2), some (.int x3), some (.int x4), some (.int y0), none, none, none]) (st' := [.ref b, .int (s (b + 2) j1)]) (fun _ => rfl) ?_
  refine t_gr (rfl : mfetch 24 69 = some (69, .getfield 9, 3, 1, 5, 0)) hb.1 rfl ?_
  refine mEnds.stp 1 (pc' := 74) (l' := [some (.ref b), some (.int x1), some (.int x2), some (.int x3), some (.int x4), some (.int y0), none, none, none]) (st' := [.int x4, .ref (b + 1), .int (s (b + 2) j1)]) (fun _ => rfl) ?_
  obtain ⟨j2, hj2, hf⟩ := ob hf
  refine t_ia (rfl : mfetch 24 74 = some (74, .iaload, 1, 0, 0, 0)) hb.2.1 (isH_le hb 1) hj2 ?_
  refine mEnds.stp 8 (pc' := 86) (l' := [some (.ref b), some (.int x1), some (.int x2), some (.int x3), some (.int x4), some (.int y0), some (.int (((s (b + 2) j1) * ((s (b + 1) j2) - x1)) / (nI 10))), none, none]) (st' := [.int x4, .ref b]) (fun _ => rfl) ?_
  obtain ⟨v1, hv1, hf⟩ := ob hf
  refine t_cv (as := [.int x4]) (st := []) (rfl : mfetch 24 86 = some (86, .invokevirtual 113, 3, 11, 0, 0)) hb.1 rfl rfl rfl rfl ((ok_H_isOn hb hv1).deep 1) ?_
  by_cases hc1 : v1 = 0
  · rw [if_pos hc1] at hf
    refine t_jT (t := 105) (rfl : mfetch 24 89 = some (89, .ifCond .eq 16, 3, 0, 0, 0)) rfl (k_eq hc1) ?_
    refine mEnds.cut (l := [some (.ref b), some (.int x1), some (.int x2), some (.int x3), some (.int x4), some (.int y0), some (.int (((s (b + 2) j1) * ((s (b + 1) j2) - x1)) / (nI 10))), none, none]) ⟨rfl, ⟨rfl, ⟨rfl, ⟨rfl, ⟨rfl, ⟨rfl, ⟨rfl, trivial⟩⟩⟩⟩⟩⟩⟩ ?_
    exact ok_H_passHourBy_105 hb hk9 hf
  · rw [if_neg hc1] at hf
    refine t_jF (rfl : mfetch 24 89 = some (89, .ifCond .eq 16, 3, 0, 0, 0)) (k_eq' hc1) ?_
    refine mEnds.stp 1 (pc' := 93) (l' := [some (.ref b), some (.int x1), some (.int x2), some (.int x3), some (.int x4), some (.int y0), some (.int (((s (b + 2) j1) * ((s (b + 1) j2) - x1)) / (nI 10))), none, none]) (st' := [.int x2]) (fun _ => rfl) ?_
    by_cases hc2 : x2 = 0
    · rw [if_pos hc2] at hf
      refine t_jF (rfl : mfetch 24 93 = some (93, .ifCond .ne 12, 3, 0, 0, 0)) (k_ne' hc2) ?_
      refine mEnds.stp 2 (pc' := 99) (l' := [some (.ref b), some (.int x1), some (.int x2), some (.int x3), some (.int x4), some (.int y0), some (.int (((s (b + 2) j1) * ((s (b + 1) j2) - x1)) / (nI 10))), none, none]) (st' := [.int x4, .ref b]) (fun _ => rfl) ?_
      obtain ⟨v2, hv2, hf⟩ := ob hf
      refine t_cv (as := [.int x4]) (st := []) (rfl : mfetch 24 99 = some (99, .invokevirtual 116, 3, 25, 0, 0)) hb.1 rfl rfl rfl rfl ((ok_H_burn hb hv2).deep 1) ?_
      refine mEnds.stp 1 (pc' := 106) (l' := [some (.ref b), some (.int x1), some (.int x2), some (.int x3), some (.int x4), some (.int y0), some (.int (((s (b + 2) j1) * ((s (b + 1) j2) - x1)) / (nI 10))), none, none]) (st' := [.int v2.1]) (fun _ => rfl) ?_
      refine mEnds.cut (l := [some (.ref b), some (.int x1), some (.int x2), some (.int x3), some (.int x4), some (.int y0), some (.int (((s (b + 2) j1) * ((s (b + 1) j2) - x1)) / (nI 10))), none, none]) ⟨rfl, ⟨rfl, ⟨rfl, ⟨rfl, ⟨rfl, ⟨rfl, ⟨rfl, trivial⟩⟩⟩⟩⟩⟩⟩ ?_
      exact ok_H_passHourBy_106 hb hk9 hf
    · rw [if_neg hc2] at hf
      refine t_jT (t := 105) (rfl : mfetch 24 93 = some (93, .ifCond .ne 12, 3, 0, 0, 0)) rfl (k_ne hc2) ?_
      refine mEnds.cut (l := [some (.ref b), some (.int x1), some (.int x2), some (.int x3), some (.int x4), some (.int y0), some (.int (((s (b + 2) j1) * ((s (b + 1) j2) - x1)) / (nI 10))), none, none]) ⟨rfl, ⟨rfl, ⟨rfl, ⟨rfl, ⟨rfl, ⟨rfl, ⟨rfl, trivial⟩⟩⟩⟩⟩⟩⟩ ?_
      exact ok_H_passHourBy_105 hb hk9 hf
def H_passHourBy_9 (b : Nat) (x1 : Int32) (x2 : Int32) : Nat → Int32 → Int32 → sg → Option sg
  | 0, _, _, _ => none
  | fu + 1, x3, x4, s =>
  if x4 < s b 0 then
    (H_hasWall b x4 s).bind fun v1 =>
    if v1 = 0 then
      H_passHourBy_59 (H_passHourBy_9 b x1 x2 fu) b x1 x2 x3 x4 (nI 0) s
    else
      (midx x4 5).bind fun j1 =>
      (midx x4 6).bind fun j2 =>
      (midx (x4 + (nI 1)) 6).bind fun j3 =>
      H_passHourBy_59 (H_passHourBy_9 b x1 x2 fu) b x1 x2 x3 x4 (((s (b + 6) j1) * ((s (b + 1) j2) - (s (b + 1) j3))) / (nI 10)) s
  else
    (some (up s b 2 ((s b 2) + (nI 1)))).bind fun s1 =>
    some s1
set_option maxRecDepth 100000 in
theorem ok_H_passHourBy_9 {b : Nat} {x1 : Int32} {x2 : Int32} (hb : isH b) : ∀ (fu : Nat) (x3 : Int32) (x4 : Int32) (s : sg) (rv : sg), H_passHourBy_9 b x1 x2 fu x3 x4 s = some rv → mEnds [] 2 24 (9, [some (.ref b), some (.int x1), some (.int x2), some (.int x3), some (.int x4), none, none, none, none], [], hp shC s, 0, 0) (none, hp shC rv, 0, 0)
  | 0, _, _, _, _, hf => by cases hf
  | fu + 1, x3, x4, s, rv, hf => by
    rw [H_passHourBy_9] at hf
    refine mEnds.stp 2 (pc' := 12) (l' := [some (.ref b), some (.int x1), some (.int x2), some (.int x3), some (.int x4), none, none, none, none]) (st' := [.ref b, .int x4]) (fun _ => rfl) ?_
    refine t_gi (rfl : mfetch 24 12 = some (12, .getfield 36, 3, 1, 0, 0)) hb.1 rfl ?_
    by_cases hc1 : x4 < s b 0
    · rw [if_pos hc1] at hf
      refine t_cF (rfl : mfetch 24 15 = some (15, .if_icmp .ge 140, 3, 0, 0, 0)) (k_ge' hc1) ?_
      refine mEnds.stp 2 (pc' := 21) (l' := [some (.ref b), some (.int x1), some (.int x2), some (.int x3), some (.int x4), none, none, none, none]) (st' := [.int x4, .ref b]) (fun _ => rfl) ?_
      obtain ⟨v1, hv1, hf⟩ := ob hf
      refine t_cv (as := [.int x4]) (st := []) (rfl : mfetch 24 21 = some (21, .invokevirtual 110, 3, 9, 0, 0)) hb.1 rfl rfl rfl rfl ((ok_H_hasWall hb hv1).deep 1) ?_
      by_cases hc2 : v1 = 0
      · rw [if_pos hc2] at hf
        refine t_jT (t := 58) (rfl : mfetch 24 24 = some (24, .ifCond .eq 34, 3, 0, 0, 0)) rfl (k_eq hc2) ?_
        refine mEnds.stp 1 (pc' := 59) (l' := [some (.ref b), some (.int x1), some (.int x2), some (.int x3), some (.int x4), none, none, none, none]) (st' := [.int (nI 0)]) (fun _ => rfl) ?_
        refine mEnds.cut (l := [some (.ref b), some (.int x1), some (.int x2), some (.int x3), some (.int x4), none, none, none, none]) ⟨rfl, ⟨rfl, ⟨rfl, ⟨rfl, ⟨rfl, trivial⟩⟩⟩⟩⟩ ?_
        exact ok_H_passHourBy_59 hb (ok_H_passHourBy_9 hb fu) hf
      · rw [if_neg hc2] at hf
        refine t_jF (rfl : mfetch 24 24 = some (24, .ifCond .eq 34, 3, 0, 0, 0)) (k_eq' hc2) ?_
        refine mEnds.stp 1 (pc' := 28) (l' := [some (.ref b), some (.int x1), some (.int x2), some (.int x3), some (.int x4), none, none, none, none]) (st' := [.ref b]) (fun _ => rfl) ?_
        refine t_gr (rfl : mfetch 24 28 = some (28, .getfield 27, 3, 1, 10, 0)) hb.1 rfl ?_
        refine mEnds.stp 1 (pc' := 33) (l' := [some (.ref b), some (.int x1), some (.int x2), some (.int x3), some (.int x4), none, none, none, none]) (st' := [.int x4, .ref (b + 6)]) (fun _ => rfl) ?_
        obtain ⟨j1, hj1, hf⟩ := ob hf
        refine t_ia (rfl : mfetch 24 33 = some (33, .iaload, 1, 0, 0, 0)) hb.2.2.2.2.2.2.1 (isH_le hb 6) hj1 ?_
        refine mEnds.stp 1 (pc' := 35) (l' := [some (.ref b), some (.int x1), some (.int x2), some (.int x3), some (.int x4), none, none, none, none]) (st' := [.ref b, .int (s (b + 6) j1)]) (fun _ => rfl) ?_
        refine t_gr (rfl : mfetch 24 35 = some (35, .getfield 9, 3, 1, 5, 0)) hb.1 rfl ?_
        refine mEnds.stp 1 (pc' := 40) (l' := [some (.ref b), some (.int x1), some (.int x2), some (.int x3), some (.int x4), none, none, none, none]) (st' := [.int x4, .ref (b + 1), .int (s (b + 6) j1)]) (fun _ => rfl) ?_
        obtain ⟨j2, hj2, hf⟩ := ob hf
        refine t_ia (rfl : mfetch 24 40 = some (40, .iaload, 1, 0, 0, 0)) hb.2.1 (isH_le hb 1) hj2 ?_
        refine mEnds.stp 1 (pc' := 42) (l' := [some (.ref b), some (.int x1), some (.int x2), some (.int x3), some (.int x4), none, none, none, none]) (st' := [.ref b, .int (s (b + 1) j2), .int (s (b + 6) j1)]) (fun _ => rfl) ?_
        refine t_gr (rfl : mfetch 24 42 = some (42, .getfield 9, 3, 1, 5, 0)) hb.1 rfl ?_
        refine mEnds.stp 3 (pc' := 49) (l' := [some (.ref b), some (.int x1), some (.int x2), some (.int x3), some (.int x4), none, none, none, none]) (st' := [.int (x4 + (nI 1)), .ref (b + 1), .int (s (b + 1) j2), .int (s (b + 6) j1)]) (fun _ => rfl) ?_
        obtain ⟨j3, hj3, hf⟩ := ob hf
        refine t_ia (rfl : mfetch 24 49 = some (49, .iaload, 1, 0, 0, 0)) hb.2.1 (isH_le hb 1) hj3 ?_
        refine mEnds.stp 5 (pc' := 59) (l' := [some (.ref b), some (.int x1), some (.int x2), some (.int x3), some (.int x4), none, none, none, none]) (st' := [.int (((s (b + 6) j1) * ((s (b + 1) j2) - (s (b + 1) j3))) / (nI 10))]) (fun _ => rfl) ?_
        refine mEnds.cut (l := [some (.ref b), some (.int x1), some (.int x2), some (.int x3), some (.int x4), none, none, none, none]) ⟨rfl, ⟨rfl, ⟨rfl, ⟨rfl, ⟨rfl, trivial⟩⟩⟩⟩⟩ ?_
        exact ok_H_passHourBy_59 hb (ok_H_passHourBy_9 hb fu) hf
    · rw [if_neg hc1] at hf
      refine t_cT (t := 155) (rfl : mfetch 24 15 = some (15, .if_icmp .ge 140, 3, 0, 0, 0)) rfl (k_ge hc1) ?_
      refine mEnds.stp 2 (pc' := 157) (l' := [some (.ref b), some (.int x1), some (.int x2), some (.int x3), some (.int x4), none, none, none, none]) (st' := [.ref b, .ref b]) (fun _ => rfl) ?_
      refine t_gi (rfl : mfetch 24 157 = some (157, .getfield 43, 3, 1, 2, 0)) hb.1 rfl ?_
      refine mEnds.stp 2 (pc' := 162) (l' := [some (.ref b), some (.int x1), some (.int x2), some (.int x3), some (.int x4), none, none, none, none]) (st' := [.int ((s b 2) + (nI 1)), .ref b]) (fun _ => rfl) ?_
      obtain ⟨s1, hs1, hf⟩ := ob hf
      refine t_pi (rfl : mfetch 24 162 = some (162, .putfield 43, 3, 1, 2, 0)) hb.1 rfl (isH_le hb 0) rfl hs1 ?_
      cases hf; exact mEnds.rt (fun _ => rfl)
def H_passHourBy (b : Nat) (x1 : Int32) (x2 : Int32) (s : sg) : Option sg :=
  (H_switchAll b s).bind fun s1 =>
  H_passHourBy_9 b x1 x2 FU (nI 0) (nI 0) s1
set_option maxRecDepth 100000 in
theorem ok_H_passHourBy {b : Nat} {x1 : Int32} {x2 : Int32} (hb : isH b) {s : sg} {rv : sg} (hf : H_passHourBy b x1 x2 s = some rv) : mEnds [] 2 24 (0, [some (.ref b), some (.int x1), some (.int x2), none, none, none, none, none, none], [], hp shC s, 0, 0) (none, hp shC rv, 0, 0) := by
  unfold H_passHourBy at hf
  refine mEnds.stp 1 (pc' := 1) (l' := [some (.ref b), some (.int x1), some (.int x2), none, none, none, none, none, none]) (st' := [.ref b]) (fun _ => rfl) ?_
  obtain ⟨s1, hs1, hf⟩ := ob hf
  refine t_cv (as := []) (st := []) (rfl : mfetch 24 1 = some (1, .invokevirtual 107, 3, 26, 0, 0)) hb.1 rfl rfl rfl rfl (ok_H_switchAll hb hs1) ?_
  refine mEnds.stp 4 (pc' := 9) (l' := [some (.ref b), some (.int x1), some (.int x2), some (.int (nI 0)), some (.int (nI 0)), none, none, none, none]) (st' := []) (fun _ => rfl) ?_
  refine mEnds.cut (l := [some (.ref b), some (.int x1), some (.int x2), some (.int (nI 0)), some (.int (nI 0)), none, none, none, none]) ⟨rfl, ⟨rfl, ⟨rfl, ⟨rfl, ⟨rfl, trivial⟩⟩⟩⟩⟩ ?_
  exact ok_H_passHourBy_9 hb FU (nI 0) (nI 0) s1 _ hf
def H_passHour (b : Nat) (s : sg) : Option sg :=
  (H_skyNow b s).bind fun v1 =>
  (H_passHourBy b v1 (nI 0) s).bind fun s1 =>
  some s1
set_option maxRecDepth 100000 in
theorem ok_H_passHour {b : Nat} (hb : isH b) {s : sg} {rv : sg} (hf : H_passHour b s = some rv) : mEnds [] 3 23 (0, [some (.ref b)], [], hp shC s, 0, 0) (none, hp shC rv, 0, 0) := by
  unfold H_passHour at hf
  refine mEnds.stp 2 (pc' := 2) (l' := [some (.ref b)]) (st' := [.ref b, .ref b]) (fun _ => rfl) ?_
  obtain ⟨v1, hv1, hf⟩ := ob hf
  refine t_cv (as := []) (st := [.ref b]) (rfl : mfetch 23 2 = some (2, .invokevirtual 99, 3, 14, 0, 0)) hb.1 rfl rfl rfl rfl ((ok_H_skyNow hb hv1).deep 2) ?_
  refine mEnds.stp 1 (pc' := 6) (l' := [some (.ref b)]) (st' := [.int (nI 0), .int v1, .ref b]) (fun _ => rfl) ?_
  obtain ⟨s1, hs1, hf⟩ := ob hf
  refine t_cv (as := [.int v1, .int (nI 0)]) (st := []) (rfl : mfetch 23 6 = some (6, .invokevirtual 103, 3, 24, 0, 0)) hb.1 rfl rfl rfl rfl (ok_H_passHourBy hb hs1) ?_
  cases hf; exact mEnds.rt (fun _ => rfl)
def F_holdIn_7 (b : Nat) (x2 : Int32) : Nat → Int32 → sg → Option (Int32 × sg)
  | 0, _, _ => none
  | fu + 1, x3, s =>
  if x2 < x3 then
    some (nI 1, s)
  else
    (F_holdAt x3 b s).bind fun v1 =>
    if v1 = 0 then
      some (nI 0, s)
    else
      (H_passHour b s).bind fun s1 =>
      F_holdIn_7 b x2 fu (x3 + (nI 1)) s1
set_option maxRecDepth 100000 in
theorem ok_F_holdIn_7 {b : Nat} {x2 : Int32} (hb : isH b) : ∀ (fu : Nat) (x3 : Int32) (s : sg) (rv : (Int32 × sg)), F_holdIn_7 b x2 fu x3 s = some rv → mEnds [] 4 2 (7, [some (.ref 23), some (.ref b), some (.int x2), some (.int x3)], [], hp shC s, 0, 0) (some (.int rv.1), hp shC rv.2, 0, 0)
  | 0, _, _, _, hf => by cases hf
  | fu + 1, x3, s, rv, hf => by
    rw [F_holdIn_7] at hf
    refine mEnds.stp 2 (pc' := 9) (l' := [some (.ref 23), some (.ref b), some (.int x2), some (.int x3)]) (st' := [.int x2, .int x3]) (fun _ => rfl) ?_
    by_cases hc1 : x2 < x3
    · rw [if_pos hc1] at hf
      refine t_cT (t := 33) (rfl : mfetch 2 9 = some (9, .if_icmp .gt 24, 3, 0, 0, 0)) rfl (k_gt hc1) ?_
      refine mEnds.stp 1 (pc' := 34) (l' := [some (.ref 23), some (.ref b), some (.int x2), some (.int x3)]) (st' := [.int (nI 1)]) (fun _ => rfl) ?_
      exact mEnds.rti (Option.some.inj hf) (fun _ => rfl)
    · rw [if_neg hc1] at hf
      refine t_cF (rfl : mfetch 2 9 = some (9, .if_icmp .gt 24, 3, 0, 0, 0)) (k_gt' hc1) ?_
      refine mEnds.stp 3 (pc' := 15) (l' := [some (.ref 23), some (.ref b), some (.int x2), some (.int x3)]) (st' := [.ref b, .int x3, .ref 23]) (fun _ => rfl) ?_
      obtain ⟨v1, hv1, hf⟩ := ob hf
      refine t_cv (as := [.int x3, .ref b]) (st := []) (rfl : mfetch 2 15 = some (15, .invokevirtual 27, 3, 4, 0, 0)) rfl rfl rfl rfl rfl ((ok_F_holdAt hb hv1).deep 3) ?_
      by_cases hc2 : v1 = 0
      · rw [if_pos hc2] at hf
        refine t_jF (rfl : mfetch 2 18 = some (18, .ifCond .ne 5, 3, 0, 0, 0)) (k_ne' hc2) ?_
        refine mEnds.stp 1 (pc' := 22) (l' := [some (.ref 23), some (.ref b), some (.int x2), some (.int x3)]) (st' := [.int (nI 0)]) (fun _ => rfl) ?_
        exact mEnds.rti (Option.some.inj hf) (fun _ => rfl)
      · rw [if_neg hc2] at hf
        refine t_jT (t := 23) (rfl : mfetch 2 18 = some (18, .ifCond .ne 5, 3, 0, 0, 0)) rfl (k_ne hc2) ?_
        refine mEnds.stp 1 (pc' := 24) (l' := [some (.ref 23), some (.ref b), some (.int x2), some (.int x3)]) (st' := [.ref b]) (fun _ => rfl) ?_
        obtain ⟨s1, hs1, hf⟩ := ob hf
        refine t_cv (as := []) (st := []) (rfl : mfetch 2 24 = some (24, .invokevirtual 31, 3, 23, 0, 0)) hb.1 rfl rfl rfl rfl (ok_H_passHour hb hs1) ?_
        refine mEnds.stp 2 (pc' := 7) (l' := [some (.ref 23), some (.ref b), some (.int x2), some (.int (x3 + (nI 1)))]) (st' := []) (fun _ => rfl) ?_
        refine mEnds.cut (l := [some (.ref 23), some (.ref b), some (.int x2), some (.int (x3 + (nI 1)))]) ⟨rfl, ⟨rfl, ⟨rfl, ⟨rfl, trivial⟩⟩⟩⟩ ?_
        exact ok_F_holdIn_7 hb fu (x3 + (nI 1)) s1 _ hf
def F_holdIn (b : Nat) (s : sg) : Option (Int32 × sg) :=
  (F_lastHour s).bind fun v1 =>
  F_holdIn_7 b v1 FU (nI 0) s
set_option maxRecDepth 100000 in
theorem ok_F_holdIn {b : Nat} (hb : isH b) {s : sg} {rv : (Int32 × sg)} (hf : F_holdIn b s = some rv) : mEnds [] 4 2 (0, [some (.ref 23), some (.ref b), none, none], [], hp shC s, 0, 0) (some (.int rv.1), hp shC rv.2, 0, 0) := by
  unfold F_holdIn at hf
  refine mEnds.stp 1 (pc' := 1) (l' := [some (.ref 23), some (.ref b), none, none]) (st' := [.ref 23]) (fun _ => rfl) ?_
  obtain ⟨v1, hv1, hf⟩ := ob hf
  refine t_cv (as := []) (st := []) (rfl : mfetch 2 1 = some (1, .invokevirtual 23, 3, 3, 0, 0)) rfl rfl rfl rfl rfl ((ok_F_lastHour hv1).deep 3) ?_
  refine mEnds.stp 3 (pc' := 7) (l' := [some (.ref 23), some (.ref b), some (.int v1), some (.int (nI 0))]) (st' := []) (fun _ => rfl) ?_
  refine mEnds.cut (l := [some (.ref 23), some (.ref b), some (.int v1), some (.int (nI 0))]) ⟨rfl, ⟨rfl, ⟨rfl, ⟨rfl, trivial⟩⟩⟩⟩ ?_
  exact ok_F_holdIn_7 hb FU (nI 0) s _ hf
def H_empty_68 (b : Nat) : Nat → Int32 → sg → Option sg
  | 0, _, _ => none
  | fu + 1, x1, s =>
  if x1 < nI 8 then
    (midx x1 8).bind fun j1 =>
    (some (up s (b + 7) j1 (nI 10))).bind fun s1 =>
    H_empty_68 b fu (x1 + (nI 1)) s1
  else
    some s
set_option maxRecDepth 100000 in
theorem ok_H_empty_68 {b : Nat} (hb : isH b) : ∀ (fu : Nat) (x1 : Int32) (s : sg) (rv : sg), H_empty_68 b fu x1 s = some rv → mEnds [] 0 6 (68, [some (.ref b), some (.int x1)], [], hp shC s, 0, 0) (none, hp shC rv, 0, 0)
  | 0, _, _, _, hf => by cases hf
  | fu + 1, x1, s, rv, hf => by
    rw [H_empty_68] at hf
    refine mEnds.stp 2 (pc' := 71) (l' := [some (.ref b), some (.int x1)]) (st' := [.int (nI 8), .int x1]) (fun _ => rfl) ?_
    by_cases hc1 : x1 < nI 8
    · rw [if_pos hc1] at hf
      refine t_cF (rfl : mfetch 6 71 = some (71, .if_icmp .ge 17, 3, 0, 0, 0)) (k_ge' hc1) ?_
      refine mEnds.stp 1 (pc' := 75) (l' := [some (.ref b), some (.int x1)]) (st' := [.ref b]) (fun _ => rfl) ?_
      refine t_gr (rfl : mfetch 6 75 = some (75, .getfield 30, 3, 1, 11, 0)) hb.1 rfl ?_
      refine mEnds.stp 2 (pc' := 81) (l' := [some (.ref b), some (.int x1)]) (st' := [.int (nI 10), .int x1, .ref (b + 7)]) (fun _ => rfl) ?_
      obtain ⟨j1, hj1, hf⟩ := ob hf
      obtain ⟨s1, hs1, hf⟩ := ob hf
      refine t_is (rfl : mfetch 6 81 = some (81, .iastore, 1, 0, 0, 0)) hb.2.2.2.2.2.2.2 (isH_le hb 7) hj1 hs1 ?_
      refine mEnds.stp 2 (pc' := 68) (l' := [some (.ref b), some (.int (x1 + (nI 1)))]) (st' := []) (fun _ => rfl) ?_
      refine mEnds.cut (l := [some (.ref b), some (.int (x1 + (nI 1)))]) ⟨rfl, ⟨rfl, trivial⟩⟩ ?_
      exact ok_H_empty_68 hb fu (x1 + (nI 1)) s1 _ hf
    · rw [if_neg hc1] at hf
      refine t_cT (t := 88) (rfl : mfetch 6 71 = some (71, .if_icmp .ge 17, 3, 0, 0, 0)) rfl (k_ge hc1) ?_
      cases hf; exact mEnds.rt (fun _ => rfl)
def H_empty_48 (b : Nat) : Nat → Int32 → sg → Option sg
  | 0, _, _ => none
  | fu + 1, x1, s =>
  if x1 < nI 5 then
    (midx x1 5).bind fun j1 =>
    (some (up s (b + 6) j1 (nI 2))).bind fun s1 =>
    H_empty_48 b fu (x1 + (nI 1)) s1
  else
    H_empty_68 b FU (nI 0) s
set_option maxRecDepth 100000 in
theorem ok_H_empty_48 {b : Nat} (hb : isH b) : ∀ (fu : Nat) (x1 : Int32) (s : sg) (rv : sg), H_empty_48 b fu x1 s = some rv → mEnds [] 0 6 (48, [some (.ref b), some (.int x1)], [], hp shC s, 0, 0) (none, hp shC rv, 0, 0)
  | 0, _, _, _, hf => by cases hf
  | fu + 1, x1, s, rv, hf => by
    rw [H_empty_48] at hf
    refine mEnds.stp 2 (pc' := 50) (l' := [some (.ref b), some (.int x1)]) (st' := [.int (nI 5), .int x1]) (fun _ => rfl) ?_
    by_cases hc1 : x1 < nI 5
    · rw [if_pos hc1] at hf
      refine t_cF (rfl : mfetch 6 50 = some (50, .if_icmp .ge 16, 3, 0, 0, 0)) (k_ge' hc1) ?_
      refine mEnds.stp 1 (pc' := 54) (l' := [some (.ref b), some (.int x1)]) (st' := [.ref b]) (fun _ => rfl) ?_
      refine t_gr (rfl : mfetch 6 54 = some (54, .getfield 27, 3, 1, 10, 0)) hb.1 rfl ?_
      refine mEnds.stp 2 (pc' := 59) (l' := [some (.ref b), some (.int x1)]) (st' := [.int (nI 2), .int x1, .ref (b + 6)]) (fun _ => rfl) ?_
      obtain ⟨j1, hj1, hf⟩ := ob hf
      obtain ⟨s1, hs1, hf⟩ := ob hf
      refine t_is (rfl : mfetch 6 59 = some (59, .iastore, 1, 0, 0, 0)) hb.2.2.2.2.2.2.1 (isH_le hb 6) hj1 hs1 ?_
      refine mEnds.stp 2 (pc' := 48) (l' := [some (.ref b), some (.int (x1 + (nI 1)))]) (st' := []) (fun _ => rfl) ?_
      refine mEnds.cut (l := [some (.ref b), some (.int (x1 + (nI 1)))]) ⟨rfl, ⟨rfl, trivial⟩⟩ ?_
      exact ok_H_empty_48 hb fu (x1 + (nI 1)) s1 _ hf
    · rw [if_neg hc1] at hf
      refine t_cT (t := 66) (rfl : mfetch 6 50 = some (50, .if_icmp .ge 16, 3, 0, 0, 0)) rfl (k_ge hc1) ?_
      refine mEnds.stp 2 (pc' := 68) (l' := [some (.ref b), some (.int (nI 0))]) (st' := []) (fun _ => rfl) ?_
      refine mEnds.cut (l := [some (.ref b), some (.int (nI 0))]) ⟨rfl, ⟨rfl, trivial⟩⟩ ?_
      exact ok_H_empty_68 hb FU (nI 0) s _ hf
def H_empty_27 (b : Nat) : Nat → Int32 → sg → Option sg
  | 0, _, _ => none
  | fu + 1, x1, s =>
  if x1 < nI 6 then
    (midx x1 6).bind fun j1 =>
    (some (up s (b + 4) j1 (-1))).bind fun s1 =>
    H_empty_27 b fu (x1 + (nI 1)) s1
  else
    H_empty_48 b FU (nI 0) s
set_option maxRecDepth 100000 in
theorem ok_H_empty_27 {b : Nat} (hb : isH b) : ∀ (fu : Nat) (x1 : Int32) (s : sg) (rv : sg), H_empty_27 b fu x1 s = some rv → mEnds [] 0 6 (27, [some (.ref b), some (.int x1)], [], hp shC s, 0, 0) (none, hp shC rv, 0, 0)
  | 0, _, _, _, hf => by cases hf
  | fu + 1, x1, s, rv, hf => by
    rw [H_empty_27] at hf
    refine mEnds.stp 2 (pc' := 30) (l' := [some (.ref b), some (.int x1)]) (st' := [.int (nI 6), .int x1]) (fun _ => rfl) ?_
    by_cases hc1 : x1 < nI 6
    · rw [if_pos hc1] at hf
      refine t_cF (rfl : mfetch 6 30 = some (30, .if_icmp .ge 16, 3, 0, 0, 0)) (k_ge' hc1) ?_
      refine mEnds.stp 1 (pc' := 34) (l' := [some (.ref b), some (.int x1)]) (st' := [.ref b]) (fun _ => rfl) ?_
      refine t_gr (rfl : mfetch 6 34 = some (34, .getfield 21, 3, 1, 8, 0)) hb.1 rfl ?_
      refine mEnds.stp 2 (pc' := 39) (l' := [some (.ref b), some (.int x1)]) (st' := [.int (-1), .int x1, .ref (b + 4)]) (fun _ => rfl) ?_
      obtain ⟨j1, hj1, hf⟩ := ob hf
      obtain ⟨s1, hs1, hf⟩ := ob hf
      refine t_is (rfl : mfetch 6 39 = some (39, .iastore, 1, 0, 0, 0)) hb.2.2.2.2.1 (isH_le hb 4) hj1 hs1 ?_
      refine mEnds.stp 2 (pc' := 27) (l' := [some (.ref b), some (.int (x1 + (nI 1)))]) (st' := []) (fun _ => rfl) ?_
      refine mEnds.cut (l := [some (.ref b), some (.int (x1 + (nI 1)))]) ⟨rfl, ⟨rfl, trivial⟩⟩ ?_
      exact ok_H_empty_27 hb fu (x1 + (nI 1)) s1 _ hf
    · rw [if_neg hc1] at hf
      refine t_cT (t := 46) (rfl : mfetch 6 30 = some (30, .if_icmp .ge 16, 3, 0, 0, 0)) rfl (k_ge hc1) ?_
      refine mEnds.stp 2 (pc' := 48) (l' := [some (.ref b), some (.int (nI 0))]) (st' := []) (fun _ => rfl) ?_
      refine mEnds.cut (l := [some (.ref b), some (.int (nI 0))]) ⟨rfl, ⟨rfl, trivial⟩⟩ ?_
      exact ok_H_empty_48 hb FU (nI 0) s _ hf
def H_empty (b : Nat) (s : sg) : Option sg :=
  (some (up s b 0 (nI 0))).bind fun s1 =>
  (some (up s1 b 1 (nI 0))).bind fun s2 =>
  (some (up s2 b 2 (nI 0))).bind fun s3 =>
  (some (up s3 b 3 (nI 0))).bind fun s4 =>
  (some (up s4 b 4 (nI 0))).bind fun s5 =>
  H_empty_27 b FU (nI 0) s5
set_option maxRecDepth 100000 in
theorem ok_H_empty {b : Nat} (hb : isH b) {s : sg} {rv : sg} (hf : H_empty b s = some rv) : mEnds [] 0 6 (0, [some (.ref b), none], [], hp shC s, 0, 0) (none, hp shC rv, 0, 0) := by
  unfold H_empty at hf
  refine mEnds.stp 2 (pc' := 2) (l' := [some (.ref b), none]) (st' := [.int (nI 0), .ref b]) (fun _ => rfl) ?_
  obtain ⟨s1, hs1, hf⟩ := ob hf
  refine t_pi (rfl : mfetch 6 2 = some (2, .putfield 36, 3, 1, 0, 0)) hb.1 rfl (isH_le hb 0) rfl hs1 ?_
  refine mEnds.stp 2 (pc' := 7) (l' := [some (.ref b), none]) (st' := [.int (nI 0), .ref b]) (fun _ => rfl) ?_
  obtain ⟨s2, hs2, hf⟩ := ob hf
  refine t_pi (rfl : mfetch 6 7 = some (7, .putfield 40, 3, 1, 1, 0)) hb.1 rfl (isH_le hb 0) rfl hs2 ?_
  refine mEnds.stp 2 (pc' := 12) (l' := [some (.ref b), none]) (st' := [.int (nI 0), .ref b]) (fun _ => rfl) ?_
  obtain ⟨s3, hs3, hf⟩ := ob hf
  refine t_pi (rfl : mfetch 6 12 = some (12, .putfield 43, 3, 1, 2, 0)) hb.1 rfl (isH_le hb 0) rfl hs3 ?_
  refine mEnds.stp 2 (pc' := 17) (l' := [some (.ref b), none]) (st' := [.int (nI 0), .ref b]) (fun _ => rfl) ?_
  obtain ⟨s4, hs4, hf⟩ := ob hf
  refine t_pi (rfl : mfetch 6 17 = some (17, .putfield 46, 3, 1, 3, 0)) hb.1 rfl (isH_le hb 0) rfl hs4 ?_
  refine mEnds.stp 2 (pc' := 22) (l' := [some (.ref b), none]) (st' := [.int (nI 0), .ref b]) (fun _ => rfl) ?_
  obtain ⟨s5, hs5, hf⟩ := ob hf
  refine t_pi (rfl : mfetch 6 22 = some (22, .putfield 49, 3, 1, 4, 0)) hb.1 rfl (isH_le hb 0) rfl hs5 ?_
  refine mEnds.stp 2 (pc' := 27) (l' := [some (.ref b), some (.int (nI 0))]) (st' := []) (fun _ => rfl) ?_
  refine mEnds.cut (l := [some (.ref b), some (.int (nI 0))]) ⟨rfl, ⟨rfl, trivial⟩⟩ ?_
  exact ok_H_empty_27 hb FU (nI 0) s5 _ hf
