section Q30a
def F_put (x1 : Int32) (x2 : Int32) (x3 : Int32) (s : sg) : Option (Int32 × sg) :=
  if s 23 3 < nI 6 then
    (midx (s 23 3) 6).bind fun j1 =>
    (some (up s 24 j1 x1)).bind fun s1 =>
    (midx (s1 23 3) 6).bind fun j2 =>
    (some (up s1 25 j2 x2)).bind fun s2 =>
    (midx (s2 23 3) 6).bind fun j3 =>
    (some (up s2 26 j3 x3)).bind fun s3 =>
    (some (up s3 23 3 ((s3 23 3) + (nI 1)))).bind fun s4 =>
    some (nI 1, s4)
  else
    some (nI 0, s)
set_option maxRecDepth 100000 in
theorem ok_F_put {x1 : Int32} {x2 : Int32} {x3 : Int32} {s : sg} {rv : (Int32 × sg)} (hf : F_put x1 x2 x3 s = some rv) : mEnds [] 0 1 (0, [some (.ref 23), some (.int x1), some (.int x2), some (.int x3)], [], hp shC s, 0, 0) (some (.int rv.1), hp shC rv.2, 0, 0) := by
  unfold F_put at hf
  refine mEnds.stp 1 (pc' := 1) (l' := [some (.ref 23), some (.int x1), some (.int x2), some (.int x3)]) (st' := [.ref 23]) (fun _ => rfl) ?_
  refine t_gi (rfl : mfetch 1 1 = some (1, .getfield 19, 3, 0, 3, 0)) rfl rfl ?_
  refine mEnds.stp 1 (pc' := 6) (l' := [some (.ref 23), some (.int x1), some (.int x2), some (.int x3)]) (st' := [.int (nI 6), .int (s 23 3)]) (fun _ => rfl) ?_
  by_cases hc1 : s 23 3 < nI 6
  · rw [if_pos hc1] at hf
    refine t_cT (t := 11) (rfl : mfetch 1 6 = some (6, .if_icmp .lt 5, 3, 0, 0, 0)) rfl (k_lt hc1) ?_
    refine mEnds.stp 1 (pc' := 12) (l' := [some (.ref 23), some (.int x1), some (.int x2), some (.int x3)]) (st' := [.ref 23]) (fun _ => rfl) ?_
    refine t_gr (rfl : mfetch 1 12 = some (12, .getfield 9, 3, 0, 0, 0)) rfl rfl ?_
    refine mEnds.stp 1 (pc' := 16) (l' := [some (.ref 23), some (.int x1), some (.int x2), some (.int x3)]) (st' := [.ref 23, .ref 24]) (fun _ => rfl) ?_
    refine t_gi (rfl : mfetch 1 16 = some (16, .getfield 19, 3, 0, 3, 0)) rfl rfl ?_
    refine mEnds.stp 1 (pc' := 20) (l' := [some (.ref 23), some (.int x1), some (.int x2), some (.int x3)]) (st' := [.int x1, .int (s 23 3), .ref 24]) (fun _ => rfl) ?_
    obtain ⟨j1, hj1, hf⟩ := ob hf
    obtain ⟨s1, hs1, hf⟩ := ob hf
    refine t_is (rfl : mfetch 1 20 = some (20, .iastore, 1, 0, 0, 0)) rfl rfl hj1 hs1 ?_
    refine mEnds.stp 1 (pc' := 22) (l' := [some (.ref 23), some (.int x1), some (.int x2), some (.int x3)]) (st' := [.ref 23]) (fun _ => rfl) ?_
    refine t_gr (rfl : mfetch 1 22 = some (22, .getfield 13, 3, 0, 1, 0)) rfl rfl ?_
    refine mEnds.stp 1 (pc' := 26) (l' := [some (.ref 23), some (.int x1), some (.int x2), some (.int x3)]) (st' := [.ref 23, .ref 25]) (fun _ => rfl) ?_
    refine t_gi (rfl : mfetch 1 26 = some (26, .getfield 19, 3, 0, 3, 0)) rfl rfl ?_
    refine mEnds.stp 1 (pc' := 30) (l' := [some (.ref 23), some (.int x1), some (.int x2), some (.int x3)]) (st' := [.int x2, .int (s1 23 3), .ref 25]) (fun _ => rfl) ?_
    obtain ⟨j2, hj2, hf⟩ := ob hf
    obtain ⟨s2, hs2, hf⟩ := ob hf
    refine t_is (rfl : mfetch 1 30 = some (30, .iastore, 1, 0, 0, 0)) rfl rfl hj2 hs2 ?_
    refine mEnds.stp 1 (pc' := 32) (l' := [some (.ref 23), some (.int x1), some (.int x2), some (.int x3)]) (st' := [.ref 23]) (fun _ => rfl) ?_
    refine t_gr (rfl : mfetch 1 32 = some (32, .getfield 16, 3, 0, 2, 0)) rfl rfl ?_
    refine mEnds.stp 1 (pc' := 36) (l' := [some (.ref 23), some (.int x1), some (.int x2), some (.int x3)]) (st' := [.ref 23, .ref 26]) (fun _ => rfl) ?_
    refine t_gi (rfl : mfetch 1 36 = some (36, .getfield 19, 3, 0, 3, 0)) rfl rfl ?_
    refine mEnds.stp 1 (pc' := 40) (l' := [some (.ref 23), some (.int x1), some (.int x2), some (.int x3)]) (st' := [.int x3, .int (s2 23 3), .ref 26]) (fun _ => rfl) ?_
    obtain ⟨j3, hj3, hf⟩ := ob hf
    obtain ⟨s3, hs3, hf⟩ := ob hf
    refine t_is (rfl : mfetch 1 40 = some (40, .iastore, 1, 0, 0, 0)) rfl rfl hj3 hs3 ?_
    refine mEnds.stp 2 (pc' := 43) (l' := [some (.ref 23), some (.int x1), some (.int x2), some (.int x3)]) (st' := [.ref 23, .ref 23]) (fun _ => rfl) ?_
    refine t_gi (rfl : mfetch 1 43 = some (43, .getfield 19, 3, 0, 3, 0)) rfl rfl ?_
    refine mEnds.stp 2 (pc' := 48) (l' := [some (.ref 23), some (.int x1), some (.int x2), some (.int x3)]) (st' := [.int ((s3 23 3) + (nI 1)), .ref 23]) (fun _ => rfl) ?_
    obtain ⟨s4, hs4, hf⟩ := ob hf
    refine t_pi (rfl : mfetch 1 48 = some (48, .putfield 19, 3, 0, 3, 0)) rfl rfl rfl rfl hs4 ?_
    refine mEnds.stp 1 (pc' := 52) (l' := [some (.ref 23), some (.int x1), some (.int x2), some (.int x3)]) (st' := [.int (nI 1)]) (fun _ => rfl) ?_
    exact mEnds.rti (Option.some.inj hf) (fun _ => rfl)
  · rw [if_neg hc1] at hf
    refine t_cF (rfl : mfetch 1 6 = some (6, .if_icmp .lt 5, 3, 0, 0, 0)) (k_lt' hc1) ?_
    refine mEnds.stp 1 (pc' := 10) (l' := [some (.ref 23), some (.int x1), some (.int x2), some (.int x3)]) (st' := [.int (nI 0)]) (fun _ => rfl) ?_
    exact mEnds.rti (Option.some.inj hf) (fun _ => rfl)
def F_lastHour_4 (s : sg) : Nat → Int32 → Int32 → Option Int32
  | 0, _, _ => none
  | fu + 1, x1, x2 =>
  if x2 < s 23 3 then
    (midx x2 6).bind fun j1 =>
    F_lastHour_4 s fu (if x1 < s 24 j1 then s 24 j1 else x1) (x2 + (nI 1))
  else
    some x1
set_option maxRecDepth 100000 in
theorem ok_F_lastHour_4 {s : sg} : ∀ (fu : Nat) (x1 : Int32) (x2 : Int32) (rv : Int32), F_lastHour_4 s fu x1 x2 = some rv → mEnds [] 0 3 (4, [some (.ref 23), some (.int x1), some (.int x2)], [], hp shC s, 0, 0) (some (.int rv), hp shC s, 0, 0)
  | 0, _, _, _, hf => by cases hf
  | fu + 1, x1, x2, rv, hf => by
    rw [F_lastHour_4] at hf
    refine mEnds.stp 2 (pc' := 6) (l' := [some (.ref 23), some (.int x1), some (.int x2)]) (st' := [.ref 23, .int x2]) (fun _ => rfl) ?_
    refine t_gi (rfl : mfetch 3 6 = some (6, .getfield 19, 3, 0, 3, 0)) rfl rfl ?_
    by_cases hc1 : x2 < s 23 3
    · rw [if_pos hc1] at hf
      refine t_cF (rfl : mfetch 3 9 = some (9, .if_icmp .ge 20, 3, 0, 0, 0)) (k_ge' hc1) ?_
      refine mEnds.stp 2 (pc' := 14) (l' := [some (.ref 23), some (.int x1), some (.int x2)]) (st' := [.ref 23, .int x1]) (fun _ => rfl) ?_
      refine t_gr (rfl : mfetch 3 14 = some (14, .getfield 9, 3, 0, 0, 0)) rfl rfl ?_
      refine mEnds.stp 1 (pc' := 18) (l' := [some (.ref 23), some (.int x1), some (.int x2)]) (st' := [.int x2, .ref 24, .int x1]) (fun _ => rfl) ?_
      obtain ⟨j1, hj1, hf⟩ := ob hf
      refine t_ia (rfl : mfetch 3 18 = some (18, .iaload, 1, 0, 0, 0)) rfl rfl hj1 ?_
      refine mEnds.stp 4 (pc' := 4) (l' := [some (.ref 23), some (.int (if x1 < s 24 j1 then s 24 j1 else x1)), some (.int (x2 + (nI 1)))]) (st' := []) (fun _ => rfl) ?_
      refine mEnds.cut (l := [some (.ref 23), some (.int (if x1 < s 24 j1 then s 24 j1 else x1)), some (.int (x2 + (nI 1)))]) ⟨rfl, ⟨rfl, ⟨rfl, trivial⟩⟩⟩ ?_
      exact ok_F_lastHour_4 fu (if x1 < s 24 j1 then s 24 j1 else x1) (x2 + (nI 1)) _ hf
    · rw [if_neg hc1] at hf
      refine t_cT (t := 29) (rfl : mfetch 3 9 = some (9, .if_icmp .ge 20, 3, 0, 0, 0)) rfl (k_ge hc1) ?_
      refine mEnds.stp 1 (pc' := 30) (l' := [some (.ref 23), some (.int x1), some (.int x2)]) (st' := [.int x1]) (fun _ => rfl) ?_
      cases hf; exact mEnds.rt (fun _ => rfl)
def F_lastHour (s : sg) : Option Int32 :=
  F_lastHour_4 s FU (nI 0) (nI 0)
set_option maxRecDepth 100000 in
theorem ok_F_lastHour {s : sg} {rv : Int32} (hf : F_lastHour s = some rv) : mEnds [] 0 3 (0, [some (.ref 23), none, none], [], hp shC s, 0, 0) (some (.int rv), hp shC s, 0, 0) := by
  unfold F_lastHour at hf
  refine mEnds.stp 4 (pc' := 4) (l' := [some (.ref 23), some (.int (nI 0)), some (.int (nI 0))]) (st' := []) (fun _ => rfl) ?_
  refine mEnds.cut (l := [some (.ref 23), some (.int (nI 0)), some (.int (nI 0))]) ⟨rfl, ⟨rfl, ⟨rfl, trivial⟩⟩⟩ ?_
  exact ok_F_lastHour_4 FU (nI 0) (nI 0) _ hf
def F_holdAt_2 (b : Nat) (x1 : Int32) (s : sg) : Nat → Int32 → Option Int32
  | 0, _ => none
  | fu + 1, x3 =>
  if x3 < s 23 3 then
    (midx x3 6).bind fun j1 =>
    if s 24 j1 = x1 then
      (midx x3 6).bind fun j2 =>
      (midx (s 25 j2) 6).bind fun j3 =>
      (midx x3 6).bind fun j4 =>
      if s (b + 1) j3 = s 26 j4 then
        F_holdAt_2 b x1 s fu (x3 + (nI 1))
      else
        some (nI 0)
    else
      F_holdAt_2 b x1 s fu (x3 + (nI 1))
  else
    some (nI 1)
set_option maxRecDepth 100000 in
theorem ok_F_holdAt_2 {b : Nat} {x1 : Int32} {s : sg} (hb : isH b) : ∀ (fu : Nat) (x3 : Int32) (rv : Int32), F_holdAt_2 b x1 s fu x3 = some rv → mEnds [] 0 4 (2, [some (.ref 23), some (.int x1), some (.ref b), some (.int x3)], [], hp shC s, 0, 0) (some (.int rv), hp shC s, 0, 0)
  | 0, _, _, hf => by cases hf
  | fu + 1, x3, rv, hf => by
    rw [F_holdAt_2] at hf
    refine mEnds.stp 2 (pc' := 4) (l' := [some (.ref 23), some (.int x1), some (.ref b), some (.int x3)]) (st' := [.ref 23, .int x3]) (fun _ => rfl) ?_
    refine t_gi (rfl : mfetch 4 4 = some (4, .getfield 19, 3, 0, 3, 0)) rfl rfl ?_
    by_cases hc1 : x3 < s 23 3
    · rw [if_pos hc1] at hf
      refine t_cF (rfl : mfetch 4 7 = some (7, .if_icmp .ge 41, 3, 0, 0, 0)) (k_ge' hc1) ?_
      refine mEnds.stp 1 (pc' := 11) (l' := [some (.ref 23), some (.int x1), some (.ref b), some (.int x3)]) (st' := [.ref 23]) (fun _ => rfl) ?_
      refine t_gr (rfl : mfetch 4 11 = some (11, .getfield 9, 3, 0, 0, 0)) rfl rfl ?_
      refine mEnds.stp 1 (pc' := 15) (l' := [some (.ref 23), some (.int x1), some (.ref b), some (.int x3)]) (st' := [.int x3, .ref 24]) (fun _ => rfl) ?_
      obtain ⟨j1, hj1, hf⟩ := ob hf
      refine t_ia (rfl : mfetch 4 15 = some (15, .iaload, 1, 0, 0, 0)) rfl rfl hj1 ?_
      refine mEnds.stp 1 (pc' := 17) (l' := [some (.ref 23), some (.int x1), some (.ref b), some (.int x3)]) (st' := [.int x1, .int (s 24 j1)]) (fun _ => rfl) ?_
      by_cases hc2 : s 24 j1 = x1
      · rw [if_pos hc2] at hf
        refine t_cF (rfl : mfetch 4 17 = some (17, .if_icmp .ne 25, 3, 0, 0, 0)) (k_ne' hc2) ?_
        refine mEnds.stp 1 (pc' := 21) (l' := [some (.ref 23), some (.int x1), some (.ref b), some (.int x3)]) (st' := [.ref b]) (fun _ => rfl) ?_
        refine t_gr (rfl : mfetch 4 21 = some (21, .getfield 42, 3, 1, 5, 0)) hb.1 rfl ?_
        refine mEnds.stp 1 (pc' := 25) (l' := [some (.ref 23), some (.int x1), some (.ref b), some (.int x3)]) (st' := [.ref 23, .ref (b + 1)]) (fun _ => rfl) ?_
        refine t_gr (rfl : mfetch 4 25 = some (25, .getfield 13, 3, 0, 1, 0)) rfl rfl ?_
        refine mEnds.stp 1 (pc' := 29) (l' := [some (.ref 23), some (.int x1), some (.ref b), some (.int x3)]) (st' := [.int x3, .ref 25, .ref (b + 1)]) (fun _ => rfl) ?_
        obtain ⟨j2, hj2, hf⟩ := ob hf
        refine t_ia (rfl : mfetch 4 29 = some (29, .iaload, 1, 0, 0, 0)) rfl rfl hj2 ?_
        obtain ⟨j3, hj3, hf⟩ := ob hf
        refine t_ia (rfl : mfetch 4 30 = some (30, .iaload, 1, 0, 0, 0)) hb.2.1 (isH_le hb 1) hj3 ?_
        refine mEnds.stp 1 (pc' := 32) (l' := [some (.ref 23), some (.int x1), some (.ref b), some (.int x3)]) (st' := [.ref 23, .int (s (b + 1) j3)]) (fun _ => rfl) ?_
        refine t_gr (rfl : mfetch 4 32 = some (32, .getfield 16, 3, 0, 2, 0)) rfl rfl ?_
        refine mEnds.stp 1 (pc' := 36) (l' := [some (.ref 23), some (.int x1), some (.ref b), some (.int x3)]) (st' := [.int x3, .ref 26, .int (s (b + 1) j3)]) (fun _ => rfl) ?_
        obtain ⟨j4, hj4, hf⟩ := ob hf
        refine t_ia (rfl : mfetch 4 36 = some (36, .iaload, 1, 0, 0, 0)) rfl rfl hj4 ?_
        by_cases hc3 : s (b + 1) j3 = s 26 j4
        · rw [if_pos hc3] at hf
          refine t_cT (t := 42) (rfl : mfetch 4 37 = some (37, .if_icmp .eq 5, 3, 0, 0, 0)) rfl (k_eq hc3) ?_
          refine mEnds.stp 2 (pc' := 2) (l' := [some (.ref 23), some (.int x1), some (.ref b), some (.int (x3 + (nI 1)))]) (st' := []) (fun _ => rfl) ?_
          refine mEnds.cut (l := [some (.ref 23), some (.int x1), some (.ref b), some (.int (x3 + (nI 1)))]) ⟨rfl, ⟨rfl, ⟨rfl, ⟨rfl, trivial⟩⟩⟩⟩ ?_
          exact ok_F_holdAt_2 hb fu (x3 + (nI 1)) _ hf
        · rw [if_neg hc3] at hf
          refine t_cF (rfl : mfetch 4 37 = some (37, .if_icmp .eq 5, 3, 0, 0, 0)) (k_eq' hc3) ?_
          refine mEnds.stp 1 (pc' := 41) (l' := [some (.ref 23), some (.int x1), some (.ref b), some (.int x3)]) (st' := [.int (nI 0)]) (fun _ => rfl) ?_
          cases hf; exact mEnds.rt (fun _ => rfl)
      · rw [if_neg hc2] at hf
        refine t_cT (t := 42) (rfl : mfetch 4 17 = some (17, .if_icmp .ne 25, 3, 0, 0, 0)) rfl (k_ne hc2) ?_
        refine mEnds.stp 2 (pc' := 2) (l' := [some (.ref 23), some (.int x1), some (.ref b), some (.int (x3 + (nI 1)))]) (st' := []) (fun _ => rfl) ?_
        refine mEnds.cut (l := [some (.ref 23), some (.int x1), some (.ref b), some (.int (x3 + (nI 1)))]) ⟨rfl, ⟨rfl, ⟨rfl, ⟨rfl, trivial⟩⟩⟩⟩ ?_
        exact ok_F_holdAt_2 hb fu (x3 + (nI 1)) _ hf
    · rw [if_neg hc1] at hf
      refine t_cT (t := 48) (rfl : mfetch 4 7 = some (7, .if_icmp .ge 41, 3, 0, 0, 0)) rfl (k_ge hc1) ?_
      refine mEnds.stp 1 (pc' := 49) (l' := [some (.ref 23), some (.int x1), some (.ref b), some (.int x3)]) (st' := [.int (nI 1)]) (fun _ => rfl) ?_
      cases hf; exact mEnds.rt (fun _ => rfl)
def F_holdAt (x1 : Int32) (b : Nat) (s : sg) : Option Int32 :=
  F_holdAt_2 b x1 s FU (nI 0)
set_option maxRecDepth 100000 in
theorem ok_F_holdAt {x1 : Int32} {b : Nat} (hb : isH b) {s : sg} {rv : Int32} (hf : F_holdAt x1 b s = some rv) : mEnds [] 0 4 (0, [some (.ref 23), some (.int x1), some (.ref b), none], [], hp shC s, 0, 0) (some (.int rv), hp shC s, 0, 0) := by
  unfold F_holdAt at hf
  refine mEnds.stp 2 (pc' := 2) (l' := [some (.ref 23), some (.int x1), some (.ref b), some (.int (nI 0))]) (st' := []) (fun _ => rfl) ?_
  refine mEnds.cut (l := [some (.ref 23), some (.int x1), some (.ref b), some (.int (nI 0))]) ⟨rfl, ⟨rfl, ⟨rfl, ⟨rfl, trivial⟩⟩⟩⟩ ?_
  exact ok_F_holdAt_2 hb FU (nI 0) _ hf
def H_skyNow (b : Nat) (s : sg) : Option Int32 :=
  (midx ((s b 2) - (s b 2) / (nI 8) * (nI 8)) 8).bind fun j1 =>
  some (s (b + 7) j1)
set_option maxRecDepth 100000 in
theorem ok_H_skyNow {b : Nat} (hb : isH b) {s : sg} {rv : Int32} (hf : H_skyNow b s = some rv) : mEnds [] 0 14 (0, [some (.ref b)], [], hp shC s, 0, 0) (some (.int rv), hp shC s, 0, 0) := by
  unfold H_skyNow at hf
  refine mEnds.stp 1 (pc' := 1) (l' := [some (.ref b)]) (st' := [.ref b]) (fun _ => rfl) ?_
  refine t_gr (rfl : mfetch 14 1 = some (1, .getfield 30, 3, 1, 11, 0)) hb.1 rfl ?_
  refine mEnds.stp 1 (pc' := 5) (l' := [some (.ref b)]) (st' := [.ref b, .ref (b + 7)]) (fun _ => rfl) ?_
  refine t_gi (rfl : mfetch 14 5 = some (5, .getfield 43, 3, 1, 2, 0)) hb.1 rfl ?_
  refine mEnds.stp 2 (pc' := 11) (l' := [some (.ref b)]) (st' := [.int ((s b 2) - (s b 2) / (nI 8) * (nI 8)), .ref (b + 7)]) (fun _ => rfl) ?_
  obtain ⟨j1, hj1, hf⟩ := ob hf
  refine t_ia (rfl : mfetch 14 11 = some (11, .iaload, 1, 0, 0, 0)) hb.2.2.2.2.2.2.2 (isH_le hb 7) hj1 ?_
  cases hf; exact mEnds.rt (fun _ => rfl)
def H_hasWall (b : Nat) (x1 : Int32) (s : sg) : Option Int32 :=
  if x1 < 0 then
    some (nI 0)
  else
    if x1 < (s b 0) - (nI 1) then
      some (nI 1)
    else
      some (nI 0)
set_option maxRecDepth 100000 in
theorem ok_H_hasWall {b : Nat} {x1 : Int32} (hb : isH b) {s : sg} {rv : Int32} (hf : H_hasWall b x1 s = some rv) : mEnds [] 0 9 (0, [some (.ref b), some (.int x1)], [], hp shC s, 0, 0) (some (.int rv), hp shC s, 0, 0) := by
  unfold H_hasWall at hf
  refine mEnds.stp 1 (pc' := 1) (l' := [some (.ref b), some (.int x1)]) (st' := [.int x1]) (fun _ => rfl) ?_
  by_cases hc1 : x1 < 0
  · rw [if_pos hc1] at hf
    refine t_jT (t := 18) (rfl : mfetch 9 1 = some (1, .ifCond .lt 17, 3, 0, 0, 0)) rfl (k_lt hc1) ?_
    refine mEnds.stp 1 (pc' := 19) (l' := [some (.ref b), some (.int x1)]) (st' := [.int (nI 0)]) (fun _ => rfl) ?_
    cases hf; exact mEnds.rt (fun _ => rfl)
  · rw [if_neg hc1] at hf
    refine t_jF (rfl : mfetch 9 1 = some (1, .ifCond .lt 17, 3, 0, 0, 0)) (k_lt' hc1) ?_
    refine mEnds.stp 2 (pc' := 6) (l' := [some (.ref b), some (.int x1)]) (st' := [.ref b, .int x1]) (fun _ => rfl) ?_
    refine t_gi (rfl : mfetch 9 6 = some (6, .getfield 36, 3, 1, 0, 0)) hb.1 rfl ?_
    refine mEnds.stp 2 (pc' := 11) (l' := [some (.ref b), some (.int x1)]) (st' := [.int ((s b 0) - (nI 1)), .int x1]) (fun _ => rfl) ?_
    by_cases hc2 : x1 < (s b 0) - (nI 1)
    · rw [if_pos hc2] at hf
      refine t_cF (rfl : mfetch 9 11 = some (11, .if_icmp .ge 7, 3, 0, 0, 0)) (k_ge' hc2) ?_
      refine mEnds.stp 2 (pc' := 19) (l' := [some (.ref b), some (.int x1)]) (st' := [.int (nI 1)]) (fun _ => rfl) ?_
      cases hf; exact mEnds.rt (fun _ => rfl)
    · rw [if_neg hc2] at hf
      refine t_cT (t := 18) (rfl : mfetch 9 11 = some (11, .if_icmp .ge 7, 3, 0, 0, 0)) rfl (k_ge hc2) ?_
      refine mEnds.stp 1 (pc' := 19) (l' := [some (.ref b), some (.int x1)]) (st' := [.int (nI 0)]) (fun _ => rfl) ?_
      cases hf; exact mEnds.rt (fun _ => rfl)
def H_isOn (b : Nat) (x1 : Int32) (s : sg) : Option Int32 :=
  if ((s b 1) >>> (x1 &&& 31)) &&& (nI 1) = nI 1 then
    some (nI 1)
  else
    some (nI 0)
set_option maxRecDepth 100000 in
theorem ok_H_isOn {b : Nat} {x1 : Int32} (hb : isH b) {s : sg} {rv : Int32} (hf : H_isOn b x1 s = some rv) : mEnds [] 0 11 (0, [some (.ref b), some (.int x1)], [], hp shC s, 0, 0) (some (.int rv), hp shC s, 0, 0) := by
  unfold H_isOn at hf
  refine mEnds.stp 1 (pc' := 1) (l' := [some (.ref b), some (.int x1)]) (st' := [.ref b]) (fun _ => rfl) ?_
  refine t_gi (rfl : mfetch 11 1 = some (1, .getfield 40, 3, 1, 1, 0)) hb.1 rfl ?_
  refine mEnds.stp 5 (pc' := 9) (l' := [some (.ref b), some (.int x1)]) (st' := [.int (nI 1), .int (((s b 1) >>> (x1 &&& 31)) &&& (nI 1))]) (fun _ => rfl) ?_
  by_cases hc1 : ((s b 1) >>> (x1 &&& 31)) &&& (nI 1) = nI 1
  · rw [if_pos hc1] at hf
    refine t_cF (rfl : mfetch 11 9 = some (9, .if_icmp .ne 7, 3, 0, 0, 0)) (k_ne' hc1) ?_
    refine mEnds.stp 2 (pc' := 17) (l' := [some (.ref b), some (.int x1)]) (st' := [.int (nI 1)]) (fun _ => rfl) ?_
    cases hf; exact mEnds.rt (fun _ => rfl)
  · rw [if_neg hc1] at hf
    refine t_cT (t := 16) (rfl : mfetch 11 9 = some (9, .if_icmp .ne 7, 3, 0, 0, 0)) rfl (k_ne hc1) ?_
    refine mEnds.stp 1 (pc' := 17) (l' := [some (.ref b), some (.int x1)]) (st' := [.int (nI 0)]) (fun _ => rfl) ?_
    cases hf; exact mEnds.rt (fun _ => rfl)
def H_burn (b : Nat) (x1 : Int32) (s : sg) : Option (Int32 × sg) :=
  (some (up s b 3 (if (s b 3) + (nI 1) < nI 9999 then (s b 3) + (nI 1) else nI 9999))).bind fun s1 =>
  (midx x1 6).bind fun j1 =>
  some (s1 (b + 3) j1, s1)
set_option maxRecDepth 100000 in
theorem ok_H_burn {b : Nat} {x1 : Int32} (hb : isH b) {s : sg} {rv : (Int32 × sg)} (hf : H_burn b x1 s = some rv) : mEnds [] 0 25 (0, [some (.ref b), some (.int x1)], [], hp shC s, 0, 0) (some (.int rv.1), hp shC rv.2, 0, 0) := by
  unfold H_burn at hf
  refine mEnds.stp 3 (pc' := 5) (l' := [some (.ref b), some (.int x1)]) (st' := [.ref b, .int (nI 9999), .ref b]) (fun _ => rfl) ?_
  refine t_gi (rfl : mfetch 25 5 = some (5, .getfield 46, 3, 1, 3, 0)) hb.1 rfl ?_
  refine mEnds.stp 3 (pc' := 13) (l' := [some (.ref b), some (.int x1)]) (st' := [.int (if (s b 3) + (nI 1) < nI 9999 then (s b 3) + (nI 1) else nI 9999), .ref b]) (fun _ => rfl) ?_
  obtain ⟨s1, hs1, hf⟩ := ob hf
  refine t_pi (rfl : mfetch 25 13 = some (13, .putfield 46, 3, 1, 3, 0)) hb.1 rfl (isH_le hb 0) rfl hs1 ?_
  refine mEnds.stp 1 (pc' := 17) (l' := [some (.ref b), some (.int x1)]) (st' := [.ref b]) (fun _ => rfl) ?_
  refine t_gr (rfl : mfetch 25 17 = some (17, .getfield 18, 3, 1, 7, 0)) hb.1 rfl ?_
  refine mEnds.stp 1 (pc' := 21) (l' := [some (.ref b), some (.int x1)]) (st' := [.int x1, .ref (b + 3)]) (fun _ => rfl) ?_
  obtain ⟨j1, hj1, hf⟩ := ob hf
  refine t_ia (rfl : mfetch 25 21 = some (21, .iaload, 1, 0, 0, 0)) hb.2.2.2.1 (isH_le hb 3) hj1 ?_
  exact mEnds.rti (Option.some.inj hf) (fun _ => rfl)
def H_hasTongue (b : Nat) (x1 : Int32) (s : sg) : Option Int32 :=
  (midx x1 6).bind fun j1 =>
  if s (b + 4) j1 = (-1) then
    some (nI 0)
  else
    some (nI 1)
set_option maxRecDepth 100000 in
theorem ok_H_hasTongue {b : Nat} {x1 : Int32} (hb : isH b) {s : sg} {rv : Int32} (hf : H_hasTongue b x1 s = some rv) : mEnds [] 0 10 (0, [some (.ref b), some (.int x1)], [], hp shC s, 0, 0) (some (.int rv), hp shC s, 0, 0) := by
  unfold H_hasTongue at hf
  refine mEnds.stp 1 (pc' := 1) (l' := [some (.ref b), some (.int x1)]) (st' := [.ref b]) (fun _ => rfl) ?_
  refine t_gr (rfl : mfetch 10 1 = some (1, .getfield 21, 3, 1, 8, 0)) hb.1 rfl ?_
  refine mEnds.stp 1 (pc' := 5) (l' := [some (.ref b), some (.int x1)]) (st' := [.int x1, .ref (b + 4)]) (fun _ => rfl) ?_
  obtain ⟨j1, hj1, hf⟩ := ob hf
  refine t_ia (rfl : mfetch 10 5 = some (5, .iaload, 1, 0, 0, 0)) hb.2.2.2.2.1 (isH_le hb 4) hj1 ?_
  refine mEnds.stp 1 (pc' := 7) (l' := [some (.ref b), some (.int x1)]) (st' := [.int (-1), .int (s (b + 4) j1)]) (fun _ => rfl) ?_
  by_cases hc1 : s (b + 4) j1 = (-1)
  · rw [if_pos hc1] at hf
    refine t_cT (t := 14) (rfl : mfetch 10 7 = some (7, .if_icmp .eq 7, 3, 0, 0, 0)) rfl (k_eq hc1) ?_
    refine mEnds.stp 1 (pc' := 15) (l' := [some (.ref b), some (.int x1)]) (st' := [.int (nI 0)]) (fun _ => rfl) ?_
    cases hf; exact mEnds.rt (fun _ => rfl)
  · rw [if_neg hc1] at hf
    refine t_cF (rfl : mfetch 10 7 = some (7, .if_icmp .eq 7, 3, 0, 0, 0)) (k_eq' hc1) ?_
    refine mEnds.stp 2 (pc' := 15) (l' := [some (.ref b), some (.int x1)]) (st' := [.int (nI 1)]) (fun _ => rfl) ?_
    cases hf; exact mEnds.rt (fun _ => rfl)
def H_lowOf (b : Nat) (x1 : Int32) (s : sg) : Option Int32 :=
  (midx x1 6).bind fun j1 =>
  (midx x1 6).bind fun j2 =>
  (midx (s (b + 4) j2) 4).bind fun j3 =>
  some ((s (b + 5) j1) + ((roA 1).getD j3 0))
set_option maxRecDepth 100000 in
theorem ok_H_lowOf {b : Nat} {x1 : Int32} (hb : isH b) {s : sg} {rv : Int32} (hf : H_lowOf b x1 s = some rv) : mEnds [] 0 12 (0, [some (.ref b), some (.int x1)], [], hp shC s, 0, 0) (some (.int rv), hp shC s, 0, 0) := by
  unfold H_lowOf at hf
  refine mEnds.stp 1 (pc' := 1) (l' := [some (.ref b), some (.int x1)]) (st' := [.ref b]) (fun _ => rfl) ?_
  refine t_gr (rfl : mfetch 12 1 = some (1, .getfield 24, 3, 1, 9, 0)) hb.1 rfl ?_
  refine mEnds.stp 1 (pc' := 5) (l' := [some (.ref b), some (.int x1)]) (st' := [.int x1, .ref (b + 5)]) (fun _ => rfl) ?_
  obtain ⟨j1, hj1, hf⟩ := ob hf
  refine t_ia (rfl : mfetch 12 5 = some (5, .iaload, 1, 0, 0, 0)) hb.2.2.2.2.2.1 (isH_le hb 5) hj1 ?_
  refine mEnds.stp 2 (pc' := 10) (l' := [some (.ref b), some (.int x1)]) (st' := [.ref b, .ref 1, .int (s (b + 5) j1)]) (fun _ => rfl) ?_
  refine t_gr (rfl : mfetch 12 10 = some (10, .getfield 21, 3, 1, 8, 0)) hb.1 rfl ?_
  refine mEnds.stp 1 (pc' := 14) (l' := [some (.ref b), some (.int x1)]) (st' := [.int x1, .ref (b + 4), .ref 1, .int (s (b + 5) j1)]) (fun _ => rfl) ?_
  obtain ⟨j2, hj2, hf⟩ := ob hf
  refine t_ia (rfl : mfetch 12 14 = some (14, .iaload, 1, 0, 0, 0)) hb.2.2.2.2.1 (isH_le hb 4) hj2 ?_
  obtain ⟨j3, hj3, hf⟩ := ob hf
  refine t_ro (rfl : mfetch 12 15 = some (15, .iaload, 1, 0, 0, 0)) (by decide) hj3 ?_
  refine mEnds.stp 1 (pc' := 17) (l' := [some (.ref b), some (.int x1)]) (st' := [.int ((s (b + 5) j1) + ((roA 1).getD j3 0))]) (fun _ => rfl) ?_
  cases hf; exact mEnds.rt (fun _ => rfl)
def H_highOf (b : Nat) (x1 : Int32) (s : sg) : Option Int32 :=
  (midx x1 6).bind fun j1 =>
  (midx x1 6).bind fun j2 =>
  (midx (s (b + 4) j2) 4).bind fun j3 =>
  some ((s (b + 5) j1) + ((roA 2).getD j3 0))
set_option maxRecDepth 100000 in
theorem ok_H_highOf {b : Nat} {x1 : Int32} (hb : isH b) {s : sg} {rv : Int32} (hf : H_highOf b x1 s = some rv) : mEnds [] 0 13 (0, [some (.ref b), some (.int x1)], [], hp shC s, 0, 0) (some (.int rv), hp shC s, 0, 0) := by
  unfold H_highOf at hf
  refine mEnds.stp 1 (pc' := 1) (l' := [some (.ref b), some (.int x1)]) (st' := [.ref b]) (fun _ => rfl) ?_
  refine t_gr (rfl : mfetch 13 1 = some (1, .getfield 24, 3, 1, 9, 0)) hb.1 rfl ?_
  refine mEnds.stp 1 (pc' := 5) (l' := [some (.ref b), some (.int x1)]) (st' := [.int x1, .ref (b + 5)]) (fun _ => rfl) ?_
  obtain ⟨j1, hj1, hf⟩ := ob hf
  refine t_ia (rfl : mfetch 13 5 = some (5, .iaload, 1, 0, 0, 0)) hb.2.2.2.2.2.1 (isH_le hb 5) hj1 ?_
  refine mEnds.stp 2 (pc' := 10) (l' := [some (.ref b), some (.int x1)]) (st' := [.ref b, .ref 2, .int (s (b + 5) j1)]) (fun _ => rfl) ?_
  refine t_gr (rfl : mfetch 13 10 = some (10, .getfield 21, 3, 1, 8, 0)) hb.1 rfl ?_
  refine mEnds.stp 1 (pc' := 14) (l' := [some (.ref b), some (.int x1)]) (st' := [.int x1, .ref (b + 4), .ref 2, .int (s (b + 5) j1)]) (fun _ => rfl) ?_
  obtain ⟨j2, hj2, hf⟩ := ob hf
  refine t_ia (rfl : mfetch 13 14 = some (14, .iaload, 1, 0, 0, 0)) hb.2.2.2.2.1 (isH_le hb 4) hj2 ?_
  obtain ⟨j3, hj3, hf⟩ := ob hf
  refine t_ro (rfl : mfetch 13 15 = some (15, .iaload, 1, 0, 0, 0)) (by decide) hj3 ?_
  refine mEnds.stp 1 (pc' := 17) (l' := [some (.ref b), some (.int x1)]) (st' := [.int ((s (b + 5) j1) + ((roA 2).getD j3 0))]) (fun _ => rfl) ?_
  cases hf; exact mEnds.rt (fun _ => rfl)
def H_switchAll_67 (k2 : Int32 → sg → Option sg) (b : Nat) (x1 : Int32) (y0 : Int32) (s : sg) : Option sg :=
  if y0 = 0 then
    k2 (x1 + (nI 1)) s
  else
    (some (up s b 1 ((s b 1) ^^^ ((nI 1) <<< (x1 &&& 31))))).bind fun s1 =>
    (some (up s1 b 4 (if (s1 b 4) + (nI 1) < nI 9999 then (s1 b 4) + (nI 1) else nI 9999))).bind fun s2 =>
    k2 (x1 + (nI 1)) s2
set_option maxRecDepth 100000 in
theorem ok_H_switchAll_67 {k2 : Int32 → sg → Option sg} {b : Nat} {x1 : Int32} {y0 : Int32} (hb : isH b) {s : sg} {rv : sg} (hk2 : ∀ (x1 : Int32) (s : sg) (rv : sg), k2 x1 s = some rv → mEnds [] 1 26 (2, [some (.ref b), some (.int x1), none], [], hp shC s, 0, 0) (none, hp shC rv, 0, 0)) (hf : H_switchAll_67 k2 b x1 y0 s = some rv) : mEnds [] 1 26 (67, [some (.ref b), some (.int x1), none], [.int y0], hp shC s, 0, 0) (none, hp shC rv, 0, 0) := by
  unfold H_switchAll_67 at hf
  refine mEnds.stp 2 (pc' := 69) (l' := [some (.ref b), some (.int x1), some (.int y0)]) (st' := [.int y0]) (fun _ => rfl) ?_
  by_cases hc1 : y0 = 0
  · rw [if_pos hc1] at hf
    refine t_jT (t := 100) (rfl : mfetch 26 69 = some (69, .ifCond .eq 31, 3, 0, 0, 0)) rfl (k_eq hc1) ?_
    refine mEnds.stp 2 (pc' := 2) (l' := [some (.ref b), some (.int (x1 + (nI 1))), some (.int y0)]) (st' := []) (fun _ => rfl) ?_
    refine mEnds.cut (l := [some (.ref b), some (.int (x1 + (nI 1))), none]) ⟨rfl, ⟨rfl, trivial⟩⟩ ?_
    exact hk2 (x1 + (nI 1)) s _ hf
  · rw [if_neg hc1] at hf
    refine t_jF (rfl : mfetch 26 69 = some (69, .ifCond .eq 31, 3, 0, 0, 0)) (k_eq' hc1) ?_
    refine mEnds.stp 2 (pc' := 74) (l' := [some (.ref b), some (.int x1), some (.int y0)]) (st' := [.ref b, .ref b]) (fun _ => rfl) ?_
    refine t_gi (rfl : mfetch 26 74 = some (74, .getfield 40, 3, 1, 1, 0)) hb.1 rfl ?_
    refine mEnds.stp 4 (pc' := 81) (l' := [some (.ref b), some (.int x1), some (.int y0)]) (st' := [.int ((s b 1) ^^^ ((nI 1) <<< (x1 &&& 31))), .ref b]) (fun _ => rfl) ?_
    obtain ⟨s1, hs1, hf⟩ := ob hf
    refine t_pi (rfl : mfetch 26 81 = some (81, .putfield 40, 3, 1, 1, 0)) hb.1 rfl (isH_le hb 0) rfl hs1 ?_
    refine mEnds.stp 3 (pc' := 89) (l' := [some (.ref b), some (.int x1), some (.int y0)]) (st' := [.ref b, .int (nI 9999), .ref b]) (fun _ => rfl) ?_
    refine t_gi (rfl : mfetch 26 89 = some (89, .getfield 49, 3, 1, 4, 0)) hb.1 rfl ?_
    refine mEnds.stp 3 (pc' := 97) (l' := [some (.ref b), some (.int x1), some (.int y0)]) (st' := [.int (if (s1 b 4) + (nI 1) < nI 9999 then (s1 b 4) + (nI 1) else nI 9999), .ref b]) (fun _ => rfl) ?_
    obtain ⟨s2, hs2, hf⟩ := ob hf
    refine t_pi (rfl : mfetch 26 97 = some (97, .putfield 49, 3, 1, 4, 0)) hb.1 rfl (isH_le hb 0) rfl hs2 ?_
    refine mEnds.stp 2 (pc' := 2) (l' := [some (.ref b), some (.int (x1 + (nI 1))), some (.int y0)]) (st' := []) (fun _ => rfl) ?_
    refine mEnds.cut (l := [some (.ref b), some (.int (x1 + (nI 1))), none]) ⟨rfl, ⟨rfl, trivial⟩⟩ ?_
    exact hk2 (x1 + (nI 1)) s2 _ hf
def H_switchAll_2 (b : Nat) : Nat → Int32 → sg → Option sg
  | 0, _, _ => none
  | fu + 1, x1, s =>
  if x1 < s b 0 then
    (H_hasTongue b x1 s).bind fun v1 =>
    if v1 = 0 then
      H_switchAll_2 b fu (x1 + (nI 1)) s
    else
      (H_isOn b x1 s).bind fun v2 =>
      if v2 = 0 then
        (midx x1 6).bind fun j1 =>
        (H_lowOf b x1 s).bind fun v3 =>
        if v3 < s (b + 1) j1 then
          H_switchAll_67 (H_switchAll_2 b fu) b x1 (nI 0) s
        else
          H_switchAll_67 (H_switchAll_2 b fu) b x1 (nI 1) s
      else
        (midx x1 6).bind fun j2 =>
        (H_highOf b x1 s).bind fun v4 =>
        if s (b + 1) j2 < v4 then
          H_switchAll_67 (H_switchAll_2 b fu) b x1 (nI 0) s
        else
          H_switchAll_67 (H_switchAll_2 b fu) b x1 (nI 1) s
  else
    some s
set_option maxRecDepth 100000 in
theorem ok_H_switchAll_2 {b : Nat} (hb : isH b) : ∀ (fu : Nat) (x1 : Int32) (s : sg) (rv : sg), H_switchAll_2 b fu x1 s = some rv → mEnds [] 1 26 (2, [some (.ref b), some (.int x1), none], [], hp shC s, 0, 0) (none, hp shC rv, 0, 0)
  | 0, _, _, _, hf => by cases hf
  | fu + 1, x1, s, rv, hf => by
    rw [H_switchAll_2] at hf
    refine mEnds.stp 2 (pc' := 4) (l' := [some (.ref b), some (.int x1), none]) (st' := [.ref b, .int x1]) (fun _ => rfl) ?_
    refine t_gi (rfl : mfetch 26 4 = some (4, .getfield 36, 3, 1, 0, 0)) hb.1 rfl ?_
    by_cases hc1 : x1 < s b 0
    · rw [if_pos hc1] at hf
      refine t_cF (rfl : mfetch 26 7 = some (7, .if_icmp .ge 99, 3, 0, 0, 0)) (k_ge' hc1) ?_
      refine mEnds.stp 2 (pc' := 12) (l' := [some (.ref b), some (.int x1), none]) (st' := [.int x1, .ref b]) (fun _ => rfl) ?_
      obtain ⟨v1, hv1, hf⟩ := ob hf
      refine t_cv (as := [.int x1]) (st := []) (rfl : mfetch 26 12 = some (12, .invokevirtual 82, 3, 10, 0, 0)) hb.1 rfl rfl rfl rfl (ok_H_hasTongue hb hv1) ?_
      by_cases hc2 : v1 = 0
      · rw [if_pos hc2] at hf
        refine t_jT (t := 100) (rfl : mfetch 26 15 = some (15, .ifCond .eq 85, 3, 0, 0, 0)) rfl (k_eq hc2) ?_
        refine mEnds.stp 2 (pc' := 2) (l' := [some (.ref b), some (.int (x1 + (nI 1))), none]) (st' := []) (fun _ => rfl) ?_
        refine mEnds.cut (l := [some (.ref b), some (.int (x1 + (nI 1))), none]) ⟨rfl, ⟨rfl, trivial⟩⟩ ?_
        exact ok_H_switchAll_2 hb fu (x1 + (nI 1)) s _ hf
      · rw [if_neg hc2] at hf
        refine t_jF (rfl : mfetch 26 15 = some (15, .ifCond .eq 85, 3, 0, 0, 0)) (k_eq' hc2) ?_
        refine mEnds.stp 2 (pc' := 20) (l' := [some (.ref b), some (.int x1), none]) (st' := [.int x1, .ref b]) (fun _ => rfl) ?_
        obtain ⟨v2, hv2, hf⟩ := ob hf
        refine t_cv (as := [.int x1]) (st := []) (rfl : mfetch 26 20 = some (20, .invokevirtual 113, 3, 11, 0, 0)) hb.1 rfl rfl rfl rfl (ok_H_isOn hb hv2) ?_
        by_cases hc3 : v2 = 0
        · rw [if_pos hc3] at hf
          refine t_jT (t := 48) (rfl : mfetch 26 23 = some (23, .ifCond .eq 25, 3, 0, 0, 0)) rfl (k_eq hc3) ?_
          refine mEnds.stp 1 (pc' := 49) (l' := [some (.ref b), some (.int x1), none]) (st' := [.ref b]) (fun _ => rfl) ?_
          refine t_gr (rfl : mfetch 26 49 = some (49, .getfield 9, 3, 1, 5, 0)) hb.1 rfl ?_
          refine mEnds.stp 1 (pc' := 53) (l' := [some (.ref b), some (.int x1), none]) (st' := [.int x1, .ref (b + 1)]) (fun _ => rfl) ?_
          obtain ⟨j1, hj1, hf⟩ := ob hf
          refine t_ia (rfl : mfetch 26 53 = some (53, .iaload, 1, 0, 0, 0)) hb.2.1 (isH_le hb 1) hj1 ?_
          refine mEnds.stp 2 (pc' := 56) (l' := [some (.ref b), some (.int x1), none]) (st' := [.int x1, .ref b, .int (s (b + 1) j1)]) (fun _ => rfl) ?_
          obtain ⟨v3, hv3, hf⟩ := ob hf
          refine t_cv (as := [.int x1]) (st := [.int (s (b + 1) j1)]) (rfl : mfetch 26 56 = some (56, .invokevirtual 126, 3, 12, 0, 0)) hb.1 rfl rfl rfl rfl (ok_H_lowOf hb hv3) ?_
          by_cases hc4 : v3 < s (b + 1) j1
          · rw [if_pos hc4] at hf
            refine t_cT (t := 66) (rfl : mfetch 26 59 = some (59, .if_icmp .gt 7, 3, 0, 0, 0)) rfl (k_gt hc4) ?_
            refine mEnds.stp 1 (pc' := 67) (l' := [some (.ref b), some (.int x1), none]) (st' := [.int (nI 0)]) (fun _ => rfl) ?_
            refine mEnds.cut (l := [some (.ref b), some (.int x1), none]) ⟨rfl, ⟨rfl, trivial⟩⟩ ?_
            exact ok_H_switchAll_67 hb (ok_H_switchAll_2 hb fu) hf
          · rw [if_neg hc4] at hf
            refine t_cF (rfl : mfetch 26 59 = some (59, .if_icmp .gt 7, 3, 0, 0, 0)) (k_gt' hc4) ?_
            refine mEnds.stp 2 (pc' := 67) (l' := [some (.ref b), some (.int x1), none]) (st' := [.int (nI 1)]) (fun _ => rfl) ?_
            refine mEnds.cut (l := [some (.ref b), some (.int x1), none]) ⟨rfl, ⟨rfl, trivial⟩⟩ ?_
            exact ok_H_switchAll_67 hb (ok_H_switchAll_2 hb fu) hf
        · rw [if_neg hc3] at hf
          refine t_jF (rfl : mfetch 26 23 = some (23, .ifCond .eq 25, 3, 0, 0, 0)) (k_eq' hc3) ?_
          refine mEnds.stp 1 (pc' := 27) (l' := [some (.ref b), some (.int x1), none]) (st' := [.ref b]) (fun _ => rfl) ?_
          refine t_gr (rfl : mfetch 26 27 = some (27, .getfield 9, 3, 1, 5, 0)) hb.1 rfl ?_
          refine mEnds.stp 1 (pc' := 31) (l' := [some (.ref b), some (.int x1), none]) (st' := [.int x1, .ref (b + 1)]) (fun _ => rfl) ?_
          obtain ⟨j2, hj2, hf⟩ := ob hf
          refine t_ia (rfl : mfetch 26 31 = some (31, .iaload, 1, 0, 0, 0)) hb.2.1 (isH_le hb 1) hj2 ?_
          refine mEnds.stp 2 (pc' := 34) (l' := [some (.ref b), some (.int x1), none]) (st' := [.int x1, .ref b, .int (s (b + 1) j2)]) (fun _ => rfl) ?_
          obtain ⟨v4, hv4, hf⟩ := ob hf
          refine t_cv (as := [.int x1]) (st := [.int (s (b + 1) j2)]) (rfl : mfetch 26 34 = some (34, .invokevirtual 123, 3, 13, 0, 0)) hb.1 rfl rfl rfl rfl (ok_H_highOf hb hv4) ?_
          by_cases hc5 : s (b + 1) j2 < v4
          · rw [if_pos hc5] at hf
            refine t_cT (t := 44) (rfl : mfetch 26 37 = some (37, .if_icmp .lt 7, 3, 0, 0, 0)) rfl (k_lt hc5) ?_
            refine mEnds.stp 2 (pc' := 67) (l' := [some (.ref b), some (.int x1), none]) (st' := [.int (nI 0)]) (fun _ => rfl) ?_
            refine mEnds.cut (l := [some (.ref b), some (.int x1), none]) ⟨rfl, ⟨rfl, trivial⟩⟩ ?_
            exact ok_H_switchAll_67 hb (ok_H_switchAll_2 hb fu) hf
          · rw [if_neg hc5] at hf
            refine t_cF (rfl : mfetch 26 37 = some (37, .if_icmp .lt 7, 3, 0, 0, 0)) (k_lt' hc5) ?_
            refine mEnds.stp 2 (pc' := 67) (l' := [some (.ref b), some (.int x1), none]) (st' := [.int (nI 1)]) (fun _ => rfl) ?_
            refine mEnds.cut (l := [some (.ref b), some (.int x1), none]) ⟨rfl, ⟨rfl, trivial⟩⟩ ?_
            exact ok_H_switchAll_67 hb (ok_H_switchAll_2 hb fu) hf
    · rw [if_neg hc1] at hf
      refine t_cT (t := 106) (rfl : mfetch 26 7 = some (7, .if_icmp .ge 99, 3, 0, 0, 0)) rfl (k_ge hc1) ?_
      cases hf; exact mEnds.rt (fun _ => rfl)
def H_switchAll (b : Nat) (s : sg) : Option sg :=
  H_switchAll_2 b FU (nI 0) s
set_option maxRecDepth 100000 in
theorem ok_H_switchAll {b : Nat} (hb : isH b) {s : sg} {rv : sg} (hf : H_switchAll b s = some rv) : mEnds [] 1 26 (0, [some (.ref b), none, none], [], hp shC s, 0, 0) (none, hp shC rv, 0, 0) := by
  unfold H_switchAll at hf
  refine mEnds.stp 2 (pc' := 2) (l' := [some (.ref b), some (.int (nI 0)), none]) (st' := []) (fun _ => rfl) ?_
  refine mEnds.cut (l := [some (.ref b), some (.int (nI 0)), none]) ⟨rfl, ⟨rfl, trivial⟩⟩ ?_
  exact ok_H_switchAll_2 hb FU (nI 0) s _ hf
def H_passHourBy_106 (k9 : Int32 → Int32 → sg → Option sg) (b : Nat) (x1 : Int32) (x2 : Int32) (x3 : Int32) (x4 : Int32) (x5 : Int32) (x6 : Int32) (y0 : Int32) (s : sg) : Option sg :=
  (midx x4 6).bind fun j1 =>
  (midx x4 6).bind fun j2 =>
  (some (up s (b + 1) j2 (if nI 0 < if ((((s (b + 1) j1) + x3) - x5) - x6) + y0 < nI 99 then ((((s (b + 1) j1) + x3) - x5) - x6) + y0 else nI 99 then if ((((s (b + 1) j1) + x3) - x5) - x6) + y0 < nI 99 then ((((s (b + 1) j1) + x3) - x5) - x6) + y0 else nI 99 else nI 0))).bind fun s1 =>
  k9 x5 (x4 + (nI 1)) s1
set_option maxRecDepth 100000 in
theorem ok_H_passHourBy_106 {k9 : Int32 → Int32 → sg → Option sg} {b : Nat} {x1 : Int32} {x2 : Int32} {x3 : Int32} {x4 : Int32} {x5 : Int32} {x6 : Int32} {y0 : Int32} (hb : isH b) {s : sg} {rv : sg} (hk9 : ∀ (x3 : Int32) (x4 : Int32) (s : sg) (rv : sg), k9 x3 x4 s = some rv → mEnds [] 2 24 (9, [some (.ref b), some (.int x1), some (.int x2), some (.int x3), some (.int x4), none, none, none, none], [], hp shC s, 0, 0) (none, hp shC rv, 0, 0)) (hf : H_passHourBy_106 k9 b x1 x2 x3 x4 x5 x6 y0 s = some rv) : mEnds [] 2 24 (106, [some (.ref b), some (.int x1), some (.int x2), some (.int x3), some (.int x4), some (.int x5), some (.int x6), none, none], [.int y0], hp shC s, 0, 0) (none, hp shC rv, 0, 0) := by
  unfold H_passHourBy_106 at hf
  refine mEnds.stp 2 (pc' := 109) (l' := [some (.ref b), some (.int x1), some (.int x2), some (.int x3), some (.int x4), some (.int x5), some (.int x6), some (.int y0), none]) (st' := [.ref b]) (fun _ => rfl) ?_
  refine t_gr (rfl : mfetch 24 109 = some (109, .getfield 9, 3, 1, 5, 0)) hb.1 rfl ?_
  refine mEnds.stp 1 (pc' := 114) (l' := [some (.ref b), some (.int x1), some (.int x2), some (.int x3), some (.int x4), some (.int x5), some (.int x6), some (.int y0), none]) (st' := [.int x4, .ref (b + 1)]) (fun _ => rfl) ?_
  obtain ⟨j1, hj1, hf⟩ := ob hf
  refine t_ia (rfl : mfetch 24 114 = some (114, .iaload, 1, 0, 0, 0)) hb.2.1 (isH_le hb 1) hj1 ?_
  refine mEnds.stp 10 (pc' := 129) (l' := [some (.ref b), some (.int x1), some (.int x2), some (.int x3), some (.int x4), some (.int x5), some (.int x6), some (.int y0), some (.int (((((s (b + 1) j1) + x3) - x5) - x6) + y0))]) (st' := [.ref b]) (fun _ => rfl) ?_
  refine t_gr (rfl : mfetch 24 129 = some (129, .getfield 9, 3, 1, 5, 0)) hb.1 rfl ?_
  refine mEnds.stp 6 (pc' := 145) (l' := [some (.ref b), some (.int x1), some (.int x2), some (.int x3), some (.int x4), some (.int x5), some (.int x6), some (.int y0), some (.int (((((s (b + 1) j1) + x3) - x5) - x6) + y0))]) (st' := [.int (if nI 0 < if ((((s (b + 1) j1) + x3) - x5) - x6) + y0 < nI 99 then ((((s (b + 1) j1) + x3) - x5) - x6) + y0 else nI 99 then if ((((s (b + 1) j1) + x3) - x5) - x6) + y0 < nI 99 then ((((s (b + 1) j1) + x3) - x5) - x6) + y0 else nI 99 else nI 0), .int x4, .ref (b + 1)]) (fun _ => rfl) ?_
  obtain ⟨j2, hj2, hf⟩ := ob hf
  obtain ⟨s1, hs1, hf⟩ := ob hf
  refine t_is (rfl : mfetch 24 145 = some (145, .iastore, 1, 0, 0, 0)) hb.2.1 (isH_le hb 1) hj2 hs1 ?_
  refine mEnds.stp 4 (pc' := 9) (l' := [some (.ref b), some (.int x1), some (.int x2), some (.int x5), some (.int (x4 + (nI 1))), some (.int x5), some (.int x6), some (.int y0), some (.int (((((s (b + 1) j1) + x3) - x5) - x6) + y0))]) (st' := []) (fun _ => rfl) ?_
  refine mEnds.cut (l := [some (.ref b), some (.int x1), some (.int x2), some (.int x5), some (.int (x4 + (nI 1))), none, none, none, none]) ⟨rfl, ⟨rfl, ⟨rfl, ⟨rfl, ⟨rfl, trivial⟩⟩⟩⟩⟩ ?_
  exact hk9 x5 (x4 + (nI 1)) s1 _ hf
def H_passHourBy_105 (k9 : Int32 → Int32 → sg → Option sg) (b : Nat) (x1 : Int32) (x2 : Int32) (x3 : Int32) (x4 : Int32) (x5 : Int32) (x6 : Int32) (s : sg) : Option sg :=
  H_passHourBy_106 k9 b x1 x2 x3 x4 x5 x6 (nI 0) s
set_option maxRecDepth 100000 in
theorem ok_H_passHourBy_105 {k9 : Int32 → Int32 → sg → Option sg} {b : Nat} {x1 : Int32} {x2 : Int32} {x3 : Int32} {x4 : Int32} {x5 : Int32} {x6 : Int32} (hb : isH b) {s : sg} {rv : sg} (hk9 : ∀ (x3 : Int32) (x4 : Int32) (s : sg) (rv : sg), k9 x3 x4 s = some rv → mEnds [] 2 24 (9, [some (.ref b), some (.int x1), some (.int x2), some (.int x3), some (.int x4), none, none, none, none], [], hp shC s, 0, 0) (none, hp shC rv, 0, 0)) (hf : H_passHourBy_105 k9 b x1 x2 x3 x4 x5 x6 s = some rv) : mEnds [] 2 24 (105, [some (.ref b), some (.int x1), some (.int x2), some (.int x3), some (.int x4), some (.int x5), some (.int x6), none, none], [], hp shC s, 0, 0) (none, hp shC rv, 0, 0) := by
  unfold H_passHourBy_105 at hf
  refine mEnds.stp 1 (pc' := 106) (l' := [some (.ref b), some (.int x1), some (.int x2), some (.int x3), some (.int x4), some (.int x5), some (.int x6), none, none]) (st' := [.int (nI 0)]) (fun _ => rfl) ?_
  refine mEnds.cut (l := [some (.ref b), some (.int x1), some (.int x2), some (.int x3), some (.int x4), some (.int x5), some (.int x6), none, none]) ⟨rfl, ⟨rfl, ⟨rfl, ⟨rfl, ⟨rfl, ⟨rfl, ⟨rfl, trivial⟩⟩⟩⟩⟩⟩⟩ ?_
  exact ok_H_passHourBy_106 hb hk9 hf
def H_passHourBy_59 (k9 : Int32 → Int32 → sg → Option sg) (b : Nat) (x1 : Int32) (x2 : Int32) (x3 : Int32) (x4 : Int32) (y0 : Int32) (s : sg) : Option sg :=
  (midx x4 6).bind fun j1 =>
  (midx x4 6).bind fun j2 =>
  (H_isOn b x4 s).bind fun v1 =>
  if v1 = 0 then
    H_passHourBy_105 k9 b x1 x2 x3 x4 y0 (((s (b + 2) j1) * ((s (b + 1) j2) - x1)) / (nI 10)) s
  else
    if x2 = 0 then
      (H_burn b x4 s).bind fun v2 =>
      H_passHourBy_106 k9 b x1 x2 x3 x4 y0 (((s (b + 2) j1) * ((s (b + 1) j2) - x1)) / (nI 10)) v2.1 v2.2
    else
      H_passHourBy_105 k9 b x1 x2 x3 x4 y0 (((s (b + 2) j1) * ((s (b + 1) j2) - x1)) / (nI 10)) s
set_option maxRecDepth 100000 in
theorem ok_H_passHourBy_59 {k9 : Int32 → Int32 → sg → Option sg} {b : Nat} {x1 : Int32} {x2 : Int32} {x3 : Int32} {x4 : Int32} {y0 : Int32} (hb : isH b) {s : sg} {rv : sg} (hk9 : ∀ (x3 : Int32) (x4 : Int32) (s : sg) (rv : sg), k9 x3 x4 s = some rv → mEnds [] 2 24 (9, [some (.ref b), some (.int x1), some (.int x2), some (.int x3), some (.int x4), none, none, none, none], [], hp shC s, 0, 0) (none, hp shC rv, 0, 0)) (hf : H_passHourBy_59 k9 b x1 x2 x3 x4 y0 s = some rv) : mEnds [] 2 24 (59, [some (.ref b), some (.int x1), some (.int x2), some (.int x3), some (.int x4), none, none, none, none], [.int y0], hp shC s, 0, 0) (none, hp shC rv, 0, 0) := by
  unfold H_passHourBy_59 at hf
  refine mEnds.stp 2 (pc' := 62) (l' := [some (.ref b), some (.int x1), some (.int x2), some (.int x3), some (.int x4), some (.int y0), none, none, none]) (st' := [.ref b]) (fun _ => rfl) ?_
  refine t_gr (rfl : mfetch 24 62 = some (62, .getfield 15, 3, 1, 6, 0)) hb.1 rfl ?_
  refine mEnds.stp 1 (pc' := 67) (l' := [some (.ref b), some (.int x1), some (.int x2), some (.int x3), some (.int x4), some (.int y0), none, none, none]) (st' := [.int x4, .ref (b + 2)]) (fun _ => rfl) ?_
  obtain ⟨j1, hj1, hf⟩ := ob hf
  refine t_ia (rfl : mfetch 24 67 = some (67, .iaload, 1, 0, 0, 0)) hb.2.2.1 (isH_le hb 2) hj1 ?_
  refine mEnds.stp 1 (pc' := 69) (l' := [some (.ref b), some (.int x1), some (.int x2), some (.int x3), some (.int x4), some (.int y0), none, none, none]) (st' := [.ref b, .int (s (b + 2) j1)]) (fun _ => rfl) ?_
  refine t_gr (rfl : mfetch 24 69 = some (69, .getfield 9, 3, 1, 5, 0)) hb.1 rfl ?_
  refine mEnds.stp 1 (pc' := 74) (l' := [some (.ref b), some (.int x1), some (.int x2), some (.int x3), some (.int x4), some (.int y0), none, none, none]) (st' := [.int x4, .ref (b + 1), .int (s (b + 2) j1)]) (fun _ => rfl) ?_
  obtain ⟨j2, hj2, hf⟩ := ob hf
  refine t_ia (rfl : mfetch 24 74 = some (74, .iaload, 1, 0, 0, 0)) hb.2.1 (isH_le hb 1) hj2 ?_
  refine mEnds.stp 8 (pc' := 86) (l' := [some (.ref b), some (.int x1), some (.int x2), some (.int x3), some (.int x4), some (.int y0), some (.int (((s (b + 2) j1) * ((s (b + 1) j2) - x1)) / (nI 10))), none, none]) (st' := [.int x4, .ref b]) (fun _ => rfl) ?_
  obtain ⟨v1, hv1, hf⟩ := ob hf
  refine t_cv (as := [.int x4]) (st := []) (rfl : mfetch 24 86 = some (86, .invokevirtual 113, 3, 11, 0, 0)) hb.1 rfl rfl rfl rfl ((ok_H_isOn hb hv1).deep 1) ?_
  by_cases hc1 : v1 = 0
  · rw [if_pos hc1] at hf
    refine t_jT (t := 105) (rfl : mfetch 24 89 = some (89, .ifCond .eq 16, 3, 0, 0, 0)) rfl (k_eq hc1) ?_
    refine mEnds.cut (l := [some (.ref b), some (.int x1), some (.int x2), some (.int x3), some (.int x4), some (.int y0), some (.int (((s (b + 2) j1) * ((s (b + 1) j2) - x1)) / (nI 10))), none, none]) ⟨rfl, ⟨rfl, ⟨rfl, ⟨rfl, ⟨rfl, ⟨rfl, ⟨rfl, trivial⟩⟩⟩⟩⟩⟩⟩ ?_
    exact ok_H_passHourBy_105 hb hk9 hf
  · rw [if_neg hc1] at hf
    refine t_jF (rfl : mfetch 24 89 = some (89, .ifCond .eq 16, 3, 0, 0, 0)) (k_eq' hc1) ?_
    refine mEnds.stp 1 (pc' := 93) (l' := [some (.ref b), some (.int x1), some (.int x2), some (.int x3), some (.int x4), some (.int y0), some (.int (((s (b + 2) j1) * ((s (b + 1) j2) - x1)) / (nI 10))), none, none]) (st' := [.int x2]) (fun _ => rfl) ?_
    by_cases hc2 : x2 = 0
    · rw [if_pos hc2] at hf
      refine t_jF (rfl : mfetch 24 93 = some (93, .ifCond .ne 12, 3, 0, 0, 0)) (k_ne' hc2) ?_
      refine mEnds.stp 2 (pc' := 99) (l' := [some (.ref b), some (.int x1), some (.int x2), some (.int x3), some (.int x4), some (.int y0), some (.int (((s (b + 2) j1) * ((s (b + 1) j2) - x1)) / (nI 10))), none, none]) (st' := [.int x4, .ref b]) (fun _ => rfl) ?_
      obtain ⟨v2, hv2, hf⟩ := ob hf
      refine t_cv (as := [.int x4]) (st := []) (rfl : mfetch 24 99 = some (99, .invokevirtual 116, 3, 25, 0, 0)) hb.1 rfl rfl rfl rfl ((ok_H_burn hb hv2).deep 1) ?_
      refine mEnds.stp 1 (pc' := 106) (l' := [some (.ref b), some (.int x1), some (.int x2), some (.int x3), some (.int x4), some (.int y0), some (.int (((s (b + 2) j1) * ((s (b + 1) j2) - x1)) / (nI 10))), none, none]) (st' := [.int v2.1]) (fun _ => rfl) ?_
      refine mEnds.cut (l := [some (.ref b), some (.int x1), some (.int x2), some (.int x3), some (.int x4), some (.int y0), some (.int (((s (b + 2) j1) * ((s (b + 1) j2) - x1)) / (nI 10))), none, none]) ⟨rfl, ⟨rfl, ⟨rfl, ⟨rfl, ⟨rfl, ⟨rfl, ⟨rfl, trivial⟩⟩⟩⟩⟩⟩⟩ ?_
      exact ok_H_passHourBy_106 hb hk9 hf
    · rw [if_neg hc2] at hf
      refine t_jT (t := 105) (rfl : mfetch 24 93 = some (93, .ifCond .ne 12, 3, 0, 0, 0)) rfl (k_ne hc2) ?_
      refine mEnds.cut (l := [some (.ref b), some (.int x1), some (.int x2), some (.int x3), some (.int x4), some (.int y0), some (.int (((s (b + 2) j1) * ((s (b + 1) j2) - x1)) / (nI 10))), none, none]) ⟨rfl, ⟨rfl, ⟨rfl, ⟨rfl, ⟨rfl, ⟨rfl, ⟨rfl, trivial⟩⟩⟩⟩⟩⟩⟩ ?_
      exact ok_H_passHourBy_105 hb hk9 hf
def H_passHourBy_9 (b : Nat) (x1 : Int32) (x2 : Int32) : Nat → Int32 → Int32 → sg → Option sg
  | 0, _, _, _ => none
  | fu + 1, x3, x4, s =>
  if x4 < s b 0 then
    (H_hasWall b x4 s).bind fun v1 =>
    if v1 = 0 then
      H_passHourBy_59 (H_passHourBy_9 b x1 x2 fu) b x1 x2 x3 x4 (nI 0) s
    else
      (midx x4 5).bind fun j1 =>
      (midx x4 6).bind fun j2 =>
      (midx (x4 + (nI 1)) 6).bind fun j3 =>
      H_passHourBy_59 (H_passHourBy_9 b x1 x2 fu) b x1 x2 x3 x4 (((s (b + 6) j1) * ((s (b + 1) j2) - (s (b + 1) j3))) / (nI 10)) s
  else
    (some (up s b 2 ((s b 2) + (nI 1)))).bind fun s1 =>
    some s1
set_option maxRecDepth 100000 in
theorem ok_H_passHourBy_9 {b : Nat} {x1 : Int32} {x2 : Int32} (hb : isH b) : ∀ (fu : Nat) (x3 : Int32) (x4 : Int32) (s : sg) (rv : sg), H_passHourBy_9 b x1 x2 fu x3 x4 s = some rv → mEnds [] 2 24 (9, [some (.ref b), some (.int x1), some (.int x2), some (.int x3), some (.int x4), none, none, none, none], [], hp shC s, 0, 0) (none, hp shC rv, 0, 0)
  | 0, _, _, _, _, hf => by cases hf
  | fu + 1, x3, x4, s, rv, hf => by
    rw [H_passHourBy_9] at hf
    refine mEnds.stp 2 (pc' := 12) (l' := [some (.ref b), some (.int x1), some (.int x2), some (.int x3), some (.int x4), none, none, none, none]) (st' := [.ref b, .int x4]) (fun _ => rfl) ?_
    refine t_gi (rfl : mfetch 24 12 = some (12, .getfield 36, 3, 1, 0, 0)) hb.1 rfl ?_
    by_cases hc1 : x4 < s b 0
    · rw [if_pos hc1] at hf
      refine t_cF (rfl : mfetch 24 15 = some (15, .if_icmp .ge 140, 3, 0, 0, 0)) (k_ge' hc1) ?_
      refine mEnds.stp 2 (pc' := 21) (l' := [some (.ref b), some (.int x1), some (.int x2), some (.int x3), some (.int x4), none, none, none, none]) (st' := [.int x4, .ref b]) (fun _ => rfl) ?_
      obtain ⟨v1, hv1, hf⟩ := ob hf
      refine t_cv (as := [.int x4]) (st := []) (rfl : mfetch 24 21 = some (21, .invokevirtual 110, 3, 9, 0, 0)) hb.1 rfl rfl rfl rfl ((ok_H_hasWall hb hv1).deep 1) ?_
      by_cases hc2 : v1 = 0
      · rw [if_pos hc2] at hf
        refine t_jT (t := 58) (rfl : mfetch 24 24 = some (24, .ifCond .eq 34, 3, 0, 0, 0)) rfl (k_eq hc2) ?_
        refine mEnds.stp 1 (pc' := 59) (l' := [some (.ref b), some (.int x1), some (.int x2), some (.int x3), some (.int x4), none, none, none, none]) (st' := [.int (nI 0)]) (fun _ => rfl) ?_
        refine mEnds.cut (l := [some (.ref b), some (.int x1), some (.int x2), some (.int x3), some (.int x4), none, none, none, none]) ⟨rfl, ⟨rfl, ⟨rfl, ⟨rfl, ⟨rfl, trivial⟩⟩⟩⟩⟩ ?_
        exact ok_H_passHourBy_59 hb (ok_H_passHourBy_9 hb fu) hf
      · rw [if_neg hc2] at hf
        refine t_jF (rfl : mfetch 24 24 = some (24, .ifCond .eq 34, 3, 0, 0, 0)) (k_eq' hc2) ?_
        refine mEnds.stp 1 (pc' := 28) (l' := [some (.ref b), some (.int x1), some (.int x2), some (.int x3), some (.int x4), none, none, none, none]) (st' := [.ref b]) (fun _ => rfl) ?_
        refine t_gr (rfl : mfetch 24 28 = some (28, .getfield 27, 3, 1, 10, 0)) hb.1 rfl ?_
        refine mEnds.stp 1 (pc' := 33) (l' := [some (.ref b), some (.int x1), some (.int x2), some (.int x3), some (.int x4), none, none, none, none]) (st' := [.int x4, .ref (b + 6)]) (fun _ => rfl) ?_
        obtain ⟨j1, hj1, hf⟩ := ob hf
        refine t_ia (rfl : mfetch 24 33 = some (33, .iaload, 1, 0, 0, 0)) hb.2.2.2.2.2.2.1 (isH_le hb 6) hj1 ?_
        refine mEnds.stp 1 (pc' := 35) (l' := [some (.ref b), some (.int x1), some (.int x2), some (.int x3), some (.int x4), none, none, none, none]) (st' := [.ref b, .int (s (b + 6) j1)]) (fun _ => rfl) ?_
        refine t_gr (rfl : mfetch 24 35 = some (35, .getfield 9, 3, 1, 5, 0)) hb.1 rfl ?_
        refine mEnds.stp 1 (pc' := 40) (l' := [some (.ref b), some (.int x1), some (.int x2), some (.int x3), some (.int x4), none, none, none, none]) (st' := [.int x4, .ref (b + 1), .int (s (b + 6) j1)]) (fun _ => rfl) ?_
        obtain ⟨j2, hj2, hf⟩ := ob hf
        refine t_ia (rfl : mfetch 24 40 = some (40, .iaload, 1, 0, 0, 0)) hb.2.1 (isH_le hb 1) hj2 ?_
        refine mEnds.stp 1 (pc' := 42) (l' := [some (.ref b), some (.int x1), some (.int x2), some (.int x3), some (.int x4), none, none, none, none]) (st' := [.ref b, .int (s (b + 1) j2), .int (s (b + 6) j1)]) (fun _ => rfl) ?_
        refine t_gr (rfl : mfetch 24 42 = some (42, .getfield 9, 3, 1, 5, 0)) hb.1 rfl ?_
        refine mEnds.stp 3 (pc' := 49) (l' := [some (.ref b), some (.int x1), some (.int x2), some (.int x3), some (.int x4), none, none, none, none]) (st' := [.int (x4 + (nI 1)), .ref (b + 1), .int (s (b + 1) j2), .int (s (b + 6) j1)]) (fun _ => rfl) ?_
        obtain ⟨j3, hj3, hf⟩ := ob hf
        refine t_ia (rfl : mfetch 24 49 = some (49, .iaload, 1, 0, 0, 0)) hb.2.1 (isH_le hb 1) hj3 ?_
        refine mEnds.stp 5 (pc' := 59) (l' := [some (.ref b), some (.int x1), some (.int x2), some (.int x3), some (.int x4), none, none, none, none]) (st' := [.int (((s (b + 6) j1) * ((s (b + 1) j2) - (s (b + 1) j3))) / (nI 10))]) (fun _ => rfl) ?_
        refine mEnds.cut (l := [some (.ref b), some (.int x1), some (.int x2), some (.int x3), some (.int x4), none, none, none, none]) ⟨rfl, ⟨rfl, ⟨rfl, ⟨rfl, ⟨rfl, trivial⟩⟩⟩⟩⟩ ?_
        exact ok_H_passHourBy_59 hb (ok_H_passHourBy_9 hb fu) hf
    · rw [if_neg hc1] at hf
      refine t_cT (t := 155) (rfl : mfetch 24 15 = some (15, .if_icmp .ge 140, 3, 0, 0, 0)) rfl (k_ge hc1) ?_
      refine mEnds.stp 2 (pc' := 157) (l' := [some (.ref b), some (.int x1), some (.int x2), some (.int x3), some (.int x4), none, none, none, none]) (st' := [.ref b, .ref b]) (fun _ => rfl) ?_
      refine t_gi (rfl : mfetch 24 157 = some (157, .getfield 43, 3, 1, 2, 0)) hb.1 rfl ?_
      refine mEnds.stp 2 (pc' := 162) (l' := [some (.ref b), some (.int x1), some (.int x2), some (.int x3), some (.int x4), none, none, none, none]) (st' := [.int ((s b 2) + (nI 1)), .ref b]) (fun _ => rfl) ?_
      obtain ⟨s1, hs1, hf⟩ := ob hf
      refine t_pi (rfl : mfetch 24 162 = some (162, .putfield 43, 3, 1, 2, 0)) hb.1 rfl (isH_le hb 0) rfl hs1 ?_
      cases hf; exact mEnds.rt (fun _ => rfl)
def H_passHourBy (b : Nat) (x1 : Int32) (x2 : Int32) (s : sg) : Option sg :=
  (H_switchAll b s).bind fun s1 =>
  H_passHourBy_9 b x1 x2 FU (nI 0) (nI 0) s1
set_option maxRecDepth 100000 in
theorem ok_H_passHourBy {b : Nat} {x1 : Int32} {x2 : Int32} (hb : isH b) {s : sg} {rv : sg} (hf : H_passHourBy b x1 x2 s = some rv) : mEnds [] 2 24 (0, [some (.ref b), some (.int x1), some (.int x2), none, none, none, none, none, none], [], hp shC s, 0, 0) (none, hp shC rv, 0, 0) := by
  unfold H_passHourBy at hf
  refine mEnds.stp 1 (pc' := 1) (l' := [some (.ref b), some (.int x1), some (.int x2), none, none, none, none, none, none]) (st' := [.ref b]) (fun _ => rfl) ?_
  obtain ⟨s1, hs1, hf⟩ := ob hf
  refine t_cv (as := []) (st := []) (rfl : mfetch 24 1 = some (1, .invokevirtual 107, 3, 26, 0, 0)) hb.1 rfl rfl rfl rfl (ok_H_switchAll hb hs1) ?_
  refine mEnds.stp 4 (pc' := 9) (l' := [some (.ref b), some (.int x1), some (.int x2), some (.int (nI 0)), some (.int (nI 0)), none, none, none, none]) (st' := []) (fun _ => rfl) ?_
  refine mEnds.cut (l := [some (.ref b), some (.int x1), some (.int x2), some (.int (nI 0)), some (.int (nI 0)), none, none, none, none]) ⟨rfl, ⟨rfl, ⟨rfl, ⟨rfl, ⟨rfl, trivial⟩⟩⟩⟩⟩ ?_
  exact ok_H_passHourBy_9 hb FU (nI 0) (nI 0) s1 _ hf
def H_passHour (b : Nat) (s : sg) : Option sg :=
  (H_skyNow b s).bind fun v1 =>
  (H_passHourBy b v1 (nI 0) s).bind fun s1 =>
  some s1
set_option maxRecDepth 100000 in
theorem ok_H_passHour {b : Nat} (hb : isH b) {s : sg} {rv : sg} (hf : H_passHour b s = some rv) : mEnds [] 3 23 (0, [some (.ref b)], [], hp shC s, 0, 0) (none, hp shC rv, 0, 0) := by
  unfold H_passHour at hf
  refine mEnds.stp 2 (pc' := 2) (l' := [some (.ref b)]) (st' := [.ref b, .ref b]) (fun _ => rfl) ?_
  obtain ⟨v1, hv1, hf⟩ := ob hf
  refine t_cv (as := []) (st := [.ref b]) (rfl : mfetch 23 2 = some (2, .invokevirtual 99, 3, 14, 0, 0)) hb.1 rfl rfl rfl rfl ((ok_H_skyNow hb hv1).deep 2) ?_
  refine mEnds.stp 1 (pc' := 6) (l' := [some (.ref b)]) (st' := [.int (nI 0), .int v1, .ref b]) (fun _ => rfl) ?_
  obtain ⟨s1, hs1, hf⟩ := ob hf
  refine t_cv (as := [.int v1, .int (nI 0)]) (st := []) (rfl : mfetch 23 6 = some (6, .invokevirtual 103, 3, 24, 0, 0)) hb.1 rfl rfl rfl rfl (ok_H_passHourBy hb hs1) ?_
  cases hf; exact mEnds.rt (fun _ => rfl)
def F_holdIn_7 (b : Nat) (x2 : Int32) : Nat → Int32 → sg → Option (Int32 × sg)
  | 0, _, _ => none
  | fu + 1, x3, s =>
  if x2 < x3 then
    some (nI 1, s)
  else
    (F_holdAt x3 b s).bind fun v1 =>
    if v1 = 0 then
      some (nI 0, s)
    else
      (H_passHour b s).bind fun s1 =>
      F_holdIn_7 b x2 fu (x3 + (nI 1)) s1
set_option maxRecDepth 100000 in
theorem ok_F_holdIn_7 {b : Nat} {x2 : Int32} (hb : isH b) : ∀ (fu : Nat) (x3 : Int32) (s : sg) (rv : (Int32 × sg)), F_holdIn_7 b x2 fu x3 s = some rv → mEnds [] 4 2 (7, [some (.ref 23), some (.ref b), some (.int x2), some (.int x3)], [], hp shC s, 0, 0) (some (.int rv.1), hp shC rv.2, 0, 0)
  | 0, _, _, _, hf => by cases hf
  | fu + 1, x3, s, rv, hf => by
    rw [F_holdIn_7] at hf
    refine mEnds.stp 2 (pc' := 9) (l' := [some (.ref 23), some (.ref b), some (.int x2), some (.int x3)]) (st' := [.int x2, .int x3]) (fun _ => rfl) ?_
    by_cases hc1 : x2 < x3
    · rw [if_pos hc1] at hf
      refine t_cT (t := 33) (rfl : mfetch 2 9 = some (9, .if_icmp .gt 24, 3, 0, 0, 0)) rfl (k_gt hc1) ?_
      refine mEnds.stp 1 (pc' := 34) (l' := [some (.ref 23), some (.ref b), some (.int x2), some (.int x3)]) (st' := [.int (nI 1)]) (fun _ => rfl) ?_
      exact mEnds.rti (Option.some.inj hf) (fun _ => rfl)
    · rw [if_neg hc1] at hf
      refine t_cF (rfl : mfetch 2 9 = some (9, .if_icmp .gt 24, 3, 0, 0, 0)) (k_gt' hc1) ?_
      refine mEnds.stp 3 (pc' := 15) (l' := [some (.ref 23), some (.ref b), some (.int x2), some (.int x3)]) (st' := [.ref b, .int x3, .ref 23]) (fun _ => rfl) ?_
      obtain ⟨v1, hv1, hf⟩ := ob hf
      refine t_cv (as := [.int x3, .ref b]) (st := []) (rfl : mfetch 2 15 = some (15, .invokevirtual 27, 3, 4, 0, 0)) rfl rfl rfl rfl rfl ((ok_F_holdAt hb hv1).deep 3) ?_
      by_cases hc2 : v1 = 0
      · rw [if_pos hc2] at hf
        refine t_jF (rfl : mfetch 2 18 = some (18, .ifCond .ne 5, 3, 0, 0, 0)) (k_ne' hc2) ?_
        refine mEnds.stp 1 (pc' := 22) (l' := [some (.ref 23), some (.ref b), some (.int x2), some (.int x3)]) (st' := [.int (nI 0)]) (fun _ => rfl) ?_
        exact mEnds.rti (Option.some.inj hf) (fun _ => rfl)
      · rw [if_neg hc2] at hf
        refine t_jT (t := 23) (rfl : mfetch 2 18 = some (18, .ifCond .ne 5, 3, 0, 0, 0)) rfl (k_ne hc2) ?_
        refine mEnds.stp 1 (pc' := 24) (l' := [some (.ref 23), some (.ref b), some (.int x2), some (.int x3)]) (st' := [.ref b]) (fun _ => rfl) ?_
        obtain ⟨s1, hs1, hf⟩ := ob hf
        refine t_cv (as := []) (st := []) (rfl : mfetch 2 24 = some (24, .invokevirtual 31, 3, 23, 0, 0)) hb.1 rfl rfl rfl rfl (ok_H_passHour hb hs1) ?_
        refine mEnds.stp 2 (pc' := 7) (l' := [some (.ref 23), some (.ref b), some (.int x2), some (.int (x3 + (nI 1)))]) (st' := []) (fun _ => rfl) ?_
        refine mEnds.cut (l := [some (.ref 23), some (.ref b), some (.int x2), some (.int (x3 + (nI 1)))]) ⟨rfl, ⟨rfl, ⟨rfl, ⟨rfl, trivial⟩⟩⟩⟩ ?_
        exact ok_F_holdIn_7 hb fu (x3 + (nI 1)) s1 _ hf
def F_holdIn (b : Nat) (s : sg) : Option (Int32 × sg) :=
  (F_lastHour s).bind fun v1 =>
  F_holdIn_7 b v1 FU (nI 0) s
set_option maxRecDepth 100000 in
theorem ok_F_holdIn {b : Nat} (hb : isH b) {s : sg} {rv : (Int32 × sg)} (hf : F_holdIn b s = some rv) : mEnds [] 4 2 (0, [some (.ref 23), some (.ref b), none, none], [], hp shC s, 0, 0) (some (.int rv.1), hp shC rv.2, 0, 0) := by
  unfold F_holdIn at hf
  refine mEnds.stp 1 (pc' := 1) (l' := [some (.ref 23), some (.ref b), none, none]) (st' := [.ref 23]) (fun _ => rfl) ?_
  obtain ⟨v1, hv1, hf⟩ := ob hf
  refine t_cv (as := []) (st := []) (rfl : mfetch 2 1 = some (1, .invokevirtual 23, 3, 3, 0, 0)) rfl rfl rfl rfl rfl ((ok_F_lastHour hv1).deep 3) ?_
  refine mEnds.stp 3 (pc' := 7) (l' := [some (.ref 23), some (.ref b), some (.int v1), some (.int (nI 0))]) (st' := []) (fun _ => rfl) ?_
  refine mEnds.cut (l := [some (.ref 23), some (.ref b), some (.int v1), some (.int (nI 0))]) ⟨rfl, ⟨rfl, ⟨rfl, ⟨rfl, trivial⟩⟩⟩⟩ ?_
  exact ok_F_holdIn_7 hb FU (nI 0) s _ hf
def H_empty_68 (b : Nat) : Nat → Int32 → sg → Option sg
  | 0, _, _ => none
  | fu + 1, x1, s =>
  if x1 < nI 8 then
    (midx x1 8).bind fun j1 =>
    (some (up s (b + 7) j1 (nI 10))).bind fun s1 =>
    H_empty_68 b fu (x1 + (nI 1)) s1
  else
    some s
set_option maxRecDepth 100000 in
theorem ok_H_empty_68 {b : Nat} (hb : isH b) : ∀ (fu : Nat) (x1 : Int32) (s : sg) (rv : sg), H_empty_68 b fu x1 s = some rv → mEnds [] 0 6 (68, [some (.ref b), some (.int x1)], [], hp shC s, 0, 0) (none, hp shC rv, 0, 0)
  | 0, _, _, _, hf => by cases hf
  | fu + 1, x1, s, rv, hf => by
    rw [H_empty_68] at hf
    refine mEnds.stp 2 (pc' := 71) (l' := [some (.ref b), some (.int x1)]) (st' := [.int (nI 8), .int x1]) (fun _ => rfl) ?_
    by_cases hc1 : x1 < nI 8
    · rw [if_pos hc1] at hf
      refine t_cF (rfl : mfetch 6 71 = some (71, .if_icmp .ge 17, 3, 0, 0, 0)) (k_ge' hc1) ?_
      refine mEnds.stp 1 (pc' := 75) (l' := [some (.ref b), some (.int x1)]) (st' := [.ref b]) (fun _ => rfl) ?_
      refine t_gr (rfl : mfetch 6 75 = some (75, .getfield 30, 3, 1, 11, 0)) hb.1 rfl ?_
      refine mEnds.stp 2 (pc' := 81) (l' := [some (.ref b), some (.int x1)]) (st' := [.int (nI 10), .int x1, .ref (b + 7)]) (fun _ => rfl) ?_
      obtain ⟨j1, hj1, hf⟩ := ob hf
      obtain ⟨s1, hs1, hf⟩ := ob hf
      refine t_is (rfl : mfetch 6 81 = some (81, .iastore, 1, 0, 0, 0)) hb.2.2.2.2.2.2.2 (isH_le hb 7) hj1 hs1 ?_
      refine mEnds.stp 2 (pc' := 68) (l' := [some (.ref b), some (.int (x1 + (nI 1)))]) (st' := []) (fun _ => rfl) ?_
      refine mEnds.cut (l := [some (.ref b), some (.int (x1 + (nI 1)))]) ⟨rfl, ⟨rfl, trivial⟩⟩ ?_
      exact ok_H_empty_68 hb fu (x1 + (nI 1)) s1 _ hf
    · rw [if_neg hc1] at hf
      refine t_cT (t := 88) (rfl : mfetch 6 71 = some (71, .if_icmp .ge 17, 3, 0, 0, 0)) rfl (k_ge hc1) ?_
      cases hf; exact mEnds.rt (fun _ => rfl)
def H_empty_48 (b : Nat) : Nat → Int32 → sg → Option sg
  | 0, _, _ => none
  | fu + 1, x1, s =>
  if x1 < nI 5 then
    (midx x1 5).bind fun j1 =>
    (some (up s (b + 6) j1 (nI 2))).bind fun s1 =>
    H_empty_48 b fu (x1 + (nI 1)) s1
  else
    H_empty_68 b FU (nI 0) s
set_option maxRecDepth 100000 in
theorem ok_H_empty_48 {b : Nat} (hb : isH b) : ∀ (fu : Nat) (x1 : Int32) (s : sg) (rv : sg), H_empty_48 b fu x1 s = some rv → mEnds [] 0 6 (48, [some (.ref b), some (.int x1)], [], hp shC s, 0, 0) (none, hp shC rv, 0, 0)
  | 0, _, _, _, hf => by cases hf
  | fu + 1, x1, s, rv, hf => by
    rw [H_empty_48] at hf
    refine mEnds.stp 2 (pc' := 50) (l' := [some (.ref b), some (.int x1)]) (st' := [.int (nI 5), .int x1]) (fun _ => rfl) ?_
    by_cases hc1 : x1 < nI 5
    · rw [if_pos hc1] at hf
      refine t_cF (rfl : mfetch 6 50 = some (50, .if_icmp .ge 16, 3, 0, 0, 0)) (k_ge' hc1) ?_
      refine mEnds.stp 1 (pc' := 54) (l' := [some (.ref b), some (.int x1)]) (st' := [.ref b]) (fun _ => rfl) ?_
      refine t_gr (rfl : mfetch 6 54 = some (54, .getfield 27, 3, 1, 10, 0)) hb.1 rfl ?_
      refine mEnds.stp 2 (pc' := 59) (l' := [some (.ref b), some (.int x1)]) (st' := [.int (nI 2), .int x1, .ref (b + 6)]) (fun _ => rfl) ?_
      obtain ⟨j1, hj1, hf⟩ := ob hf
      obtain ⟨s1, hs1, hf⟩ := ob hf
      refine t_is (rfl : mfetch 6 59 = some (59, .iastore, 1, 0, 0, 0)) hb.2.2.2.2.2.2.1 (isH_le hb 6) hj1 hs1 ?_
      refine mEnds.stp 2 (pc' := 48) (l' := [some (.ref b), some (.int (x1 + (nI 1)))]) (st' := []) (fun _ => rfl) ?_
      refine mEnds.cut (l := [some (.ref b), some (.int (x1 + (nI 1)))]) ⟨rfl, ⟨rfl, trivial⟩⟩ ?_
      exact ok_H_empty_48 hb fu (x1 + (nI 1)) s1 _ hf
    · rw [if_neg hc1] at hf
      refine t_cT (t := 66) (rfl : mfetch 6 50 = some (50, .if_icmp .ge 16, 3, 0, 0, 0)) rfl (k_ge hc1) ?_
      refine mEnds.stp 2 (pc' := 68) (l' := [some (.ref b), some (.int (nI 0))]) (st' := []) (fun _ => rfl) ?_
      refine mEnds.cut (l := [some (.ref b), some (.int (nI 0))]) ⟨rfl, ⟨rfl, trivial⟩⟩ ?_
      exact ok_H_empty_68 hb FU (nI 0) s _ hf
def H_empty_27 (b : Nat) : Nat → Int32 → sg → Option sg
  | 0, _, _ => none
  | fu + 1, x1, s =>
  if x1 < nI 6 then
    (midx x1 6).bind fun j1 =>
    (some (up s (b + 4) j1 (-1))).bind fun s1 =>
    H_empty_27 b fu (x1 + (nI 1)) s1
  else
    H_empty_48 b FU (nI 0) s
set_option maxRecDepth 100000 in
theorem ok_H_empty_27 {b : Nat} (hb : isH b) : ∀ (fu : Nat) (x1 : Int32) (s : sg) (rv : sg), H_empty_27 b fu x1 s = some rv → mEnds [] 0 6 (27, [some (.ref b), some (.int x1)], [], hp shC s, 0, 0) (none, hp shC rv, 0, 0)
  | 0, _, _, _, hf => by cases hf
  | fu + 1, x1, s, rv, hf => by
    rw [H_empty_27] at hf
    refine mEnds.stp 2 (pc' := 30) (l' := [some (.ref b), some (.int x1)]) (st' := [.int (nI 6), .int x1]) (fun _ => rfl) ?_
    by_cases hc1 : x1 < nI 6
    · rw [if_pos hc1] at hf
      refine t_cF (rfl : mfetch 6 30 = some (30, .if_icmp .ge 16, 3, 0, 0, 0)) (k_ge' hc1) ?_
      refine mEnds.stp 1 (pc' := 34) (l' := [some (.ref b), some (.int x1)]) (st' := [.ref b]) (fun _ => rfl) ?_
      refine t_gr (rfl : mfetch 6 34 = some (34, .getfield 21, 3, 1, 8, 0)) hb.1 rfl ?_
      refine mEnds.stp 2 (pc' := 39) (l' := [some (.ref b), some (.int x1)]) (st' := [.int (-1), .int x1, .ref (b + 4)]) (fun _ => rfl) ?_
      obtain ⟨j1, hj1, hf⟩ := ob hf
      obtain ⟨s1, hs1, hf⟩ := ob hf
      refine t_is (rfl : mfetch 6 39 = some (39, .iastore, 1, 0, 0, 0)) hb.2.2.2.2.1 (isH_le hb 4) hj1 hs1 ?_
      refine mEnds.stp 2 (pc' := 27) (l' := [some (.ref b), some (.int (x1 + (nI 1)))]) (st' := []) (fun _ => rfl) ?_
      refine mEnds.cut (l := [some (.ref b), some (.int (x1 + (nI 1)))]) ⟨rfl, ⟨rfl, trivial⟩⟩ ?_
      exact ok_H_empty_27 hb fu (x1 + (nI 1)) s1 _ hf
    · rw [if_neg hc1] at hf
      refine t_cT (t := 46) (rfl : mfetch 6 30 = some (30, .if_icmp .ge 16, 3, 0, 0, 0)) rfl (k_ge hc1) ?_
      refine mEnds.stp 2 (pc' := 48) (l' := [some (.ref b), some (.int (nI 0))]) (st' := []) (fun _ => rfl) ?_
      refine mEnds.cut (l := [some (.ref b), some (.int (nI 0))]) ⟨rfl, ⟨rfl, trivial⟩⟩ ?_
      exact ok_H_empty_48 hb FU (nI 0) s _ hf
def H_empty (b : Nat) (s : sg) : Option sg :=
  (some (up s b 0 (nI 0))).bind fun s1 =>
  (some (up s1 b 1 (nI 0))).bind fun s2 =>
  (some (up s2 b 2 (nI 0))).bind fun s3 =>
  (some (up s3 b 3 (nI 0))).bind fun s4 =>
  (some (up s4 b 4 (nI 0))).bind fun s5 =>
  H_empty_27 b FU (nI 0) s5
set_option maxRecDepth 100000 in
theorem ok_H_empty {b : Nat} (hb : isH b) {s : sg} {rv : sg} (hf : H_empty b s = some rv) : mEnds [] 0 6 (0, [some (.ref b), none], [], hp shC s, 0, 0) (none, hp shC rv, 0, 0) := by
  unfold H_empty at hf
  refine mEnds.stp 2 (pc' := 2) (l' := [some (.ref b), none]) (st' := [.int (nI 0), .ref b]) (fun _ => rfl) ?_
  obtain ⟨s1, hs1, hf⟩ := ob hf
  refine t_pi (rfl : mfetch 6 2 = some (2, .putfield 36, 3, 1, 0, 0)) hb.1 rfl (isH_le hb 0) rfl hs1 ?_
  refine mEnds.stp 2 (pc' := 7) (l' := [some (.ref b), none]) (st' := [.int (nI 0), .ref b]) (fun _ => rfl) ?_
  obtain ⟨s2, hs2, hf⟩ := ob hf
  refine t_pi (rfl : mfetch 6 7 = some (7, .putfield 40, 3, 1, 1, 0)) hb.1 rfl (isH_le hb 0) rfl hs2 ?_
  refine mEnds.stp 2 (pc' := 12) (l' := [some (.ref b), none]) (st' := [.int (nI 0), .ref b]) (fun _ => rfl) ?_
  obtain ⟨s3, hs3, hf⟩ := ob hf
  refine t_pi (rfl : mfetch 6 12 = some (12, .putfield 43, 3, 1, 2, 0)) hb.1 rfl (isH_le hb 0) rfl hs3 ?_
  refine mEnds.stp 2 (pc' := 17) (l' := [some (.ref b), none]) (st' := [.int (nI 0), .ref b]) (fun _ => rfl) ?_
  obtain ⟨s4, hs4, hf⟩ := ob hf
  refine t_pi (rfl : mfetch 6 17 = some (17, .putfield 46, 3, 1, 3, 0)) hb.1 rfl (isH_le hb 0) rfl hs4 ?_
  refine mEnds.stp 2 (pc' := 22) (l' := [some (.ref b), none]) (st' := [.int (nI 0), .ref b]) (fun _ => rfl) ?_
  obtain ⟨s5, hs5, hf⟩ := ob hf
  refine t_pi (rfl : mfetch 6 22 = some (22, .putfield 49, 3, 1, 4, 0)) hb.1 rfl (isH_le hb 0) rfl hs5 ?_
  refine mEnds.stp 2 (pc' := 27) (l' := [some (.ref b), some (.int (nI 0))]) (st' := []) (fun _ => rfl) ?_
  refine mEnds.cut (l := [some (.ref b), some (.int (nI 0))]) ⟨rfl, ⟨rfl, trivial⟩⟩ ?_
  exact ok_H_empty_27 hb FU (nI 0) s5 _ hf
end Q30a
section Q30b
def H_copyFrom (b : Nat) (b2 : Nat) (s : sg) : Option sg :=
  (some (up s b 0 (s b2 0))).bind fun s1 =>
  (some (up s1 b 1 (s1 b2 1))).bind fun s2 =>
  (some (up s2 b 2 (s2 b2 2))).bind fun s3 =>
  (some (up s3 b 3 (s3 b2 3))).bind fun s4 =>
  (some (up s4 b 4 (s4 b2 4))).bind fun s5 =>
  (some (cpy s5 (b2 + 1) (b + 1) 6)).bind fun s6 =>
  (some (cpy s6 (b2 + 2) (b + 2) 6)).bind fun s7 =>
  (some (cpy s7 (b2 + 3) (b + 3) 6)).bind fun s8 =>
  (some (cpy s8 (b2 + 4) (b + 4) 6)).bind fun s9 =>
  (some (cpy s9 (b2 + 5) (b + 5) 6)).bind fun s10 =>
  (some (cpy s10 (b2 + 6) (b + 6) 5)).bind fun s11 =>
  (some (cpy s11 (b2 + 7) (b + 7) 8)).bind fun s12 =>
  some s12
set_option maxRecDepth 100000 in
theorem ok_H_copyFrom {b : Nat} {b2 : Nat} (hb : isH b) (hb2 : isH b2) {s : sg} {rv : sg} (hf : H_copyFrom b b2 s = some rv) : mEnds [] 0 7 (0, [some (.ref b), some (.ref b2)], [], hp shC s, 0, 0) (none, hp shC rv, 0, 0) := by
  unfold H_copyFrom at hf
  refine mEnds.stp 2 (pc' := 2) (l' := [some (.ref b), some (.ref b2)]) (st' := [.ref b2, .ref b]) (fun _ => rfl) ?_
  refine t_gi (rfl : mfetch 7 2 = some (2, .getfield 36, 3, 1, 0, 0)) hb2.1 rfl ?_
  obtain ⟨s1, hs1, hf⟩ := ob hf
  refine t_pi (rfl : mfetch 7 5 = some (5, .putfield 36, 3, 1, 0, 0)) hb.1 rfl (isH_le hb 0) rfl hs1 ?_
  refine mEnds.stp 2 (pc' := 10) (l' := [some (.ref b), some (.ref b2)]) (st' := [.ref b2, .ref b]) (fun _ => rfl) ?_
  refine t_gi (rfl : mfetch 7 10 = some (10, .getfield 40, 3, 1, 1, 0)) hb2.1 rfl ?_
  obtain ⟨s2, hs2, hf⟩ := ob hf
  refine t_pi (rfl : mfetch 7 13 = some (13, .putfield 40, 3, 1, 1, 0)) hb.1 rfl (isH_le hb 0) rfl hs2 ?_
  refine mEnds.stp 2 (pc' := 18) (l' := [some (.ref b), some (.ref b2)]) (st' := [.ref b2, .ref b]) (fun _ => rfl) ?_
  refine t_gi (rfl : mfetch 7 18 = some (18, .getfield 43, 3, 1, 2, 0)) hb2.1 rfl ?_
  obtain ⟨s3, hs3, hf⟩ := ob hf
  refine t_pi (rfl : mfetch 7 21 = some (21, .putfield 43, 3, 1, 2, 0)) hb.1 rfl (isH_le hb 0) rfl hs3 ?_
  refine mEnds.stp 2 (pc' := 26) (l' := [some (.ref b), some (.ref b2)]) (st' := [.ref b2, .ref b]) (fun _ => rfl) ?_
  refine t_gi (rfl : mfetch 7 26 = some (26, .getfield 46, 3, 1, 3, 0)) hb2.1 rfl ?_
  obtain ⟨s4, hs4, hf⟩ := ob hf
  refine t_pi (rfl : mfetch 7 29 = some (29, .putfield 46, 3, 1, 3, 0)) hb.1 rfl (isH_le hb 0) rfl hs4 ?_
  refine mEnds.stp 2 (pc' := 34) (l' := [some (.ref b), some (.ref b2)]) (st' := [.ref b2, .ref b]) (fun _ => rfl) ?_
  refine t_gi (rfl : mfetch 7 34 = some (34, .getfield 49, 3, 1, 4, 0)) hb2.1 rfl ?_
  obtain ⟨s5, hs5, hf⟩ := ob hf
  refine t_pi (rfl : mfetch 7 37 = some (37, .putfield 49, 3, 1, 4, 0)) hb.1 rfl (isH_le hb 0) rfl hs5 ?_
  refine mEnds.stp 1 (pc' := 41) (l' := [some (.ref b), some (.ref b2)]) (st' := [.ref b2]) (fun _ => rfl) ?_
  refine t_gr (rfl : mfetch 7 41 = some (41, .getfield 9, 3, 1, 5, 0)) hb2.1 rfl ?_
  refine mEnds.stp 2 (pc' := 46) (l' := [some (.ref b), some (.ref b2)]) (st' := [.ref b, .int (nI 0), .ref (b2 + 1)]) (fun _ => rfl) ?_
  refine t_gr (rfl : mfetch 7 46 = some (46, .getfield 9, 3, 1, 5, 0)) hb.1 rfl ?_
  refine mEnds.stp 2 (pc' := 52) (l' := [some (.ref b), some (.ref b2)]) (st' := [.int (nI 6), .int (nI 0), .ref (b + 1), .int (nI 0), .ref (b2 + 1)]) (fun _ => rfl) ?_
  obtain ⟨s6, hs6, hf⟩ := ob hf
  refine t_cp (n := 6) (rfl : mfetch 7 52 = some (52, .invokestatic 52, 3, 998, 4, 0)) hb2.2.1 hb.2.1 (isH_le hb2 1) (isH_le hb 1) (by decide) (by decide) (by decide) (by decide) rfl hs6 ?_
  refine mEnds.stp 1 (pc' := 56) (l' := [some (.ref b), some (.ref b2)]) (st' := [.ref b2]) (fun _ => rfl) ?_
  refine t_gr (rfl : mfetch 7 56 = some (56, .getfield 15, 3, 1, 6, 0)) hb2.1 rfl ?_
  refine mEnds.stp 2 (pc' := 61) (l' := [some (.ref b), some (.ref b2)]) (st' := [.ref b, .int (nI 0), .ref (b2 + 2)]) (fun _ => rfl) ?_
  refine t_gr (rfl : mfetch 7 61 = some (61, .getfield 15, 3, 1, 6, 0)) hb.1 rfl ?_
  refine mEnds.stp 2 (pc' := 67) (l' := [some (.ref b), some (.ref b2)]) (st' := [.int (nI 6), .int (nI 0), .ref (b + 2), .int (nI 0), .ref (b2 + 2)]) (fun _ => rfl) ?_
  obtain ⟨s7, hs7, hf⟩ := ob hf
  refine t_cp (n := 6) (rfl : mfetch 7 67 = some (67, .invokestatic 52, 3, 998, 4, 0)) hb2.2.2.1 hb.2.2.1 (isH_le hb2 2) (isH_le hb 2) (by decide) (by decide) (by decide) (by decide) rfl hs7 ?_
  refine mEnds.stp 1 (pc' := 71) (l' := [some (.ref b), some (.ref b2)]) (st' := [.ref b2]) (fun _ => rfl) ?_
  refine t_gr (rfl : mfetch 7 71 = some (71, .getfield 18, 3, 1, 7, 0)) hb2.1 rfl ?_
  refine mEnds.stp 2 (pc' := 76) (l' := [some (.ref b), some (.ref b2)]) (st' := [.ref b, .int (nI 0), .ref (b2 + 3)]) (fun _ => rfl) ?_
  refine t_gr (rfl : mfetch 7 76 = some (76, .getfield 18, 3, 1, 7, 0)) hb.1 rfl ?_
  refine mEnds.stp 2 (pc' := 82) (l' := [some (.ref b), some (.ref b2)]) (st' := [.int (nI 6), .int (nI 0), .ref (b + 3), .int (nI 0), .ref (b2 + 3)]) (fun _ => rfl) ?_
  obtain ⟨s8, hs8, hf⟩ := ob hf
  refine t_cp (n := 6) (rfl : mfetch 7 82 = some (82, .invokestatic 52, 3, 998, 4, 0)) hb2.2.2.2.1 hb.2.2.2.1 (isH_le hb2 3) (isH_le hb 3) (by decide) (by decide) (by decide) (by decide) rfl hs8 ?_
  refine mEnds.stp 1 (pc' := 86) (l' := [some (.ref b), some (.ref b2)]) (st' := [.ref b2]) (fun _ => rfl) ?_
  refine t_gr (rfl : mfetch 7 86 = some (86, .getfield 21, 3, 1, 8, 0)) hb2.1 rfl ?_
  refine mEnds.stp 2 (pc' := 91) (l' := [some (.ref b), some (.ref b2)]) (st' := [.ref b, .int (nI 0), .ref (b2 + 4)]) (fun _ => rfl) ?_
  refine t_gr (rfl : mfetch 7 91 = some (91, .getfield 21, 3, 1, 8, 0)) hb.1 rfl ?_
  refine mEnds.stp 2 (pc' := 97) (l' := [some (.ref b), some (.ref b2)]) (st' := [.int (nI 6), .int (nI 0), .ref (b + 4), .int (nI 0), .ref (b2 + 4)]) (fun _ => rfl) ?_
  obtain ⟨s9, hs9, hf⟩ := ob hf
  refine t_cp (n := 6) (rfl : mfetch 7 97 = some (97, .invokestatic 52, 3, 998, 4, 0)) hb2.2.2.2.2.1 hb.2.2.2.2.1 (isH_le hb2 4) (isH_le hb 4) (by decide) (by decide) (by decide) (by decide) rfl hs9 ?_
  refine mEnds.stp 1 (pc' := 101) (l' := [some (.ref b), some (.ref b2)]) (st' := [.ref b2]) (fun _ => rfl) ?_
  refine t_gr (rfl : mfetch 7 101 = some (101, .getfield 24, 3, 1, 9, 0)) hb2.1 rfl ?_
  refine mEnds.stp 2 (pc' := 106) (l' := [some (.ref b), some (.ref b2)]) (st' := [.ref b, .int (nI 0), .ref (b2 + 5)]) (fun _ => rfl) ?_
  refine t_gr (rfl : mfetch 7 106 = some (106, .getfield 24, 3, 1, 9, 0)) hb.1 rfl ?_
  refine mEnds.stp 2 (pc' := 112) (l' := [some (.ref b), some (.ref b2)]) (st' := [.int (nI 6), .int (nI 0), .ref (b + 5), .int (nI 0), .ref (b2 + 5)]) (fun _ => rfl) ?_
  obtain ⟨s10, hs10, hf⟩ := ob hf
  refine t_cp (n := 6) (rfl : mfetch 7 112 = some (112, .invokestatic 52, 3, 998, 4, 0)) hb2.2.2.2.2.2.1 hb.2.2.2.2.2.1 (isH_le hb2 5) (isH_le hb 5) (by decide) (by decide) (by decide) (by decide) rfl hs10 ?_
  refine mEnds.stp 1 (pc' := 116) (l' := [some (.ref b), some (.ref b2)]) (st' := [.ref b2]) (fun _ => rfl) ?_
  refine t_gr (rfl : mfetch 7 116 = some (116, .getfield 27, 3, 1, 10, 0)) hb2.1 rfl ?_
  refine mEnds.stp 2 (pc' := 121) (l' := [some (.ref b), some (.ref b2)]) (st' := [.ref b, .int (nI 0), .ref (b2 + 6)]) (fun _ => rfl) ?_
  refine t_gr (rfl : mfetch 7 121 = some (121, .getfield 27, 3, 1, 10, 0)) hb.1 rfl ?_
  refine mEnds.stp 2 (pc' := 126) (l' := [some (.ref b), some (.ref b2)]) (st' := [.int (nI 5), .int (nI 0), .ref (b + 6), .int (nI 0), .ref (b2 + 6)]) (fun _ => rfl) ?_
  obtain ⟨s11, hs11, hf⟩ := ob hf
  refine t_cp (n := 5) (rfl : mfetch 7 126 = some (126, .invokestatic 52, 3, 998, 4, 0)) hb2.2.2.2.2.2.2.1 hb.2.2.2.2.2.2.1 (isH_le hb2 6) (isH_le hb 6) (by decide) (by decide) (by decide) (by decide) rfl hs11 ?_
  refine mEnds.stp 1 (pc' := 130) (l' := [some (.ref b), some (.ref b2)]) (st' := [.ref b2]) (fun _ => rfl) ?_
  refine t_gr (rfl : mfetch 7 130 = some (130, .getfield 30, 3, 1, 11, 0)) hb2.1 rfl ?_
  refine mEnds.stp 2 (pc' := 135) (l' := [some (.ref b), some (.ref b2)]) (st' := [.ref b, .int (nI 0), .ref (b2 + 7)]) (fun _ => rfl) ?_
  refine t_gr (rfl : mfetch 7 135 = some (135, .getfield 30, 3, 1, 11, 0)) hb.1 rfl ?_
  refine mEnds.stp 2 (pc' := 141) (l' := [some (.ref b), some (.ref b2)]) (st' := [.int (nI 8), .int (nI 0), .ref (b + 7), .int (nI 0), .ref (b2 + 7)]) (fun _ => rfl) ?_
  obtain ⟨s12, hs12, hf⟩ := ob hf
  refine t_cp (n := 8) (rfl : mfetch 7 141 = some (141, .invokestatic 52, 3, 998, 4, 0)) hb2.2.2.2.2.2.2.2 hb.2.2.2.2.2.2.2 (isH_le hb2 7) (isH_le hb 7) (by decide) (by decide) (by decide) (by decide) rfl hs12 ?_
  cases hf; exact mEnds.rt (fun _ => rfl)
def H_hasRoom (b : Nat) (x1 : Int32) (s : sg) : Option Int32 :=
  if x1 < 0 then
    some (nI 0)
  else
    if x1 < s b 0 then
      some (nI 1)
    else
      some (nI 0)
set_option maxRecDepth 100000 in
theorem ok_H_hasRoom {b : Nat} {x1 : Int32} (hb : isH b) {s : sg} {rv : Int32} (hf : H_hasRoom b x1 s = some rv) : mEnds [] 0 8 (0, [some (.ref b), some (.int x1)], [], hp shC s, 0, 0) (some (.int rv), hp shC s, 0, 0) := by
  unfold H_hasRoom at hf
  refine mEnds.stp 1 (pc' := 1) (l' := [some (.ref b), some (.int x1)]) (st' := [.int x1]) (fun _ => rfl) ?_
  by_cases hc1 : x1 < 0
  · rw [if_pos hc1] at hf
    refine t_jT (t := 16) (rfl : mfetch 8 1 = some (1, .ifCond .lt 15, 3, 0, 0, 0)) rfl (k_lt hc1) ?_
    refine mEnds.stp 1 (pc' := 17) (l' := [some (.ref b), some (.int x1)]) (st' := [.int (nI 0)]) (fun _ => rfl) ?_
    cases hf; exact mEnds.rt (fun _ => rfl)
  · rw [if_neg hc1] at hf
    refine t_jF (rfl : mfetch 8 1 = some (1, .ifCond .lt 15, 3, 0, 0, 0)) (k_lt' hc1) ?_
    refine mEnds.stp 2 (pc' := 6) (l' := [some (.ref b), some (.int x1)]) (st' := [.ref b, .int x1]) (fun _ => rfl) ?_
    refine t_gi (rfl : mfetch 8 6 = some (6, .getfield 36, 3, 1, 0, 0)) hb.1 rfl ?_
    by_cases hc2 : x1 < s b 0
    · rw [if_pos hc2] at hf
      refine t_cF (rfl : mfetch 8 9 = some (9, .if_icmp .ge 7, 3, 0, 0, 0)) (k_ge' hc2) ?_
      refine mEnds.stp 2 (pc' := 17) (l' := [some (.ref b), some (.int x1)]) (st' := [.int (nI 1)]) (fun _ => rfl) ?_
      cases hf; exact mEnds.rt (fun _ => rfl)
    · rw [if_neg hc2] at hf
      refine t_cT (t := 16) (rfl : mfetch 8 9 = some (9, .if_icmp .ge 7, 3, 0, 0, 0)) rfl (k_ge hc2) ?_
      refine mEnds.stp 1 (pc' := 17) (l' := [some (.ref b), some (.int x1)]) (st' := [.int (nI 0)]) (fun _ => rfl) ?_
      cases hf; exact mEnds.rt (fun _ => rfl)
def C_sumOf_4 (p : Nat) (n : Nat) (x1 : Int32) (s : sg) : Nat → Int32 → Int32 → Option Int32
  | 0, _, _ => none
  | fu + 1, x2, x3 =>
  if x3 < x1 then
    if x3 < nI n then
      (midx x3 n).bind fun j1 =>
      C_sumOf_4 p n x1 s fu (x2 + (s p j1)) (x3 + (nI 1))
    else
      some x2
  else
    some x2
set_option maxRecDepth 100000 in
theorem ok_C_sumOf_4 {p : Nat} {n : Nat} {x1 : Int32} {s : sg} (hp1 : shC[p]? = some (.inl (0, n))) (hp3 : Nat.ble mn0 p = true) : ∀ (fu : Nat) (x2 : Int32) (x3 : Int32) (rv : Int32), C_sumOf_4 p n x1 s fu x2 x3 = some rv → mEnds [] 0 106 (4, [some (.ref p), some (.int x1), some (.int x2), some (.int x3)], [], hp shC s, 0, 0) (some (.int rv), hp shC s, 0, 0)
  | 0, _, _, _, hf => by cases hf
  | fu + 1, x2, x3, rv, hf => by
    rw [C_sumOf_4] at hf
    refine mEnds.stp 2 (pc' := 6) (l' := [some (.ref p), some (.int x1), some (.int x2), some (.int x3)]) (st' := [.int x1, .int x3]) (fun _ => rfl) ?_
    by_cases hc1 : x3 < x1
    · rw [if_pos hc1] at hf
      refine t_cF (rfl : mfetch 106 6 = some (6, .if_icmp .ge 21, 3, 0, 0, 0)) (k_ge' hc1) ?_
      refine mEnds.stp 2 (pc' := 11) (l' := [some (.ref p), some (.int x1), some (.int x2), some (.int x3)]) (st' := [.ref p, .int x3]) (fun _ => rfl) ?_
      refine t_al (rfl : mfetch 106 11 = some (11, .arraylength, 1, 0, 0, 0)) hp1 rfl hp3 ?_
      by_cases hc2 : x3 < nI n
      · rw [if_pos hc2] at hf
        refine t_cF (rfl : mfetch 106 12 = some (12, .if_icmp .ge 15, 3, 0, 0, 0)) (k_ge' hc2) ?_
        refine mEnds.stp 3 (pc' := 18) (l' := [some (.ref p), some (.int x1), some (.int x2), some (.int x3)]) (st' := [.int x3, .ref p, .int x2]) (fun _ => rfl) ?_
        obtain ⟨j1, hj1, hf⟩ := ob hf
        refine t_ia (rfl : mfetch 106 18 = some (18, .iaload, 1, 0, 0, 0)) hp1 hp3 hj1 ?_
        refine mEnds.stp 4 (pc' := 4) (l' := [some (.ref p), some (.int x1), some (.int (x2 + (s p j1))), some (.int (x3 + (nI 1)))]) (st' := []) (fun _ => rfl) ?_
        refine mEnds.cut (l := [some (.ref p), some (.int x1), some (.int (x2 + (s p j1))), some (.int (x3 + (nI 1)))]) ⟨rfl, ⟨rfl, ⟨rfl, ⟨rfl, trivial⟩⟩⟩⟩ ?_
        exact ok_C_sumOf_4 hp1 hp3 fu (x2 + (s p j1)) (x3 + (nI 1)) _ hf
      · rw [if_neg hc2] at hf
        refine t_cT (t := 27) (rfl : mfetch 106 12 = some (12, .if_icmp .ge 15, 3, 0, 0, 0)) rfl (k_ge hc2) ?_
        refine mEnds.stp 1 (pc' := 28) (l' := [some (.ref p), some (.int x1), some (.int x2), some (.int x3)]) (st' := [.int x2]) (fun _ => rfl) ?_
        cases hf; exact mEnds.rt (fun _ => rfl)
    · rw [if_neg hc1] at hf
      refine t_cT (t := 27) (rfl : mfetch 106 6 = some (6, .if_icmp .ge 21, 3, 0, 0, 0)) rfl (k_ge hc1) ?_
      refine mEnds.stp 1 (pc' := 28) (l' := [some (.ref p), some (.int x1), some (.int x2), some (.int x3)]) (st' := [.int x2]) (fun _ => rfl) ?_
      cases hf; exact mEnds.rt (fun _ => rfl)
def C_sumOf (p : Nat) (n : Nat) (x1 : Int32) (s : sg) : Option Int32 :=
  C_sumOf_4 p n x1 s FU (nI 0) (nI 0)
set_option maxRecDepth 100000 in
theorem ok_C_sumOf {p : Nat} {n : Nat} {x1 : Int32} (hp1 : shC[p]? = some (.inl (0, n))) (hp3 : Nat.ble mn0 p = true) {s : sg} {rv : Int32} (hf : C_sumOf p n x1 s = some rv) : mEnds [] 0 106 (0, [some (.ref p), some (.int x1), none, none], [], hp shC s, 0, 0) (some (.int rv), hp shC s, 0, 0) := by
  unfold C_sumOf at hf
  refine mEnds.stp 4 (pc' := 4) (l' := [some (.ref p), some (.int x1), some (.int (nI 0)), some (.int (nI 0))]) (st' := []) (fun _ => rfl) ?_
  refine mEnds.cut (l := [some (.ref p), some (.int x1), some (.int (nI 0)), some (.int (nI 0))]) ⟨rfl, ⟨rfl, ⟨rfl, ⟨rfl, trivial⟩⟩⟩⟩ ?_
  exact ok_C_sumOf_4 hp1 hp3 FU (nI 0) (nI 0) _ hf
def H_warmthOfAll (b : Nat) (s : sg) : Option Int32 :=
  (C_sumOf (b + 1) 6 (s b 0) s).bind fun v1 =>
  some v1
set_option maxRecDepth 100000 in
theorem ok_H_warmthOfAll {b : Nat} (hb : isH b) {s : sg} {rv : Int32} (hf : H_warmthOfAll b s = some rv) : mEnds [] 1 15 (0, [some (.ref b)], [], hp shC s, 0, 0) (some (.int rv), hp shC s, 0, 0) := by
  unfold H_warmthOfAll at hf
  refine mEnds.stp 1 (pc' := 1) (l' := [some (.ref b)]) (st' := [.ref b]) (fun _ => rfl) ?_
  refine t_gr (rfl : mfetch 15 1 = some (1, .getfield 9, 3, 1, 5, 0)) hb.1 rfl ?_
  refine mEnds.stp 1 (pc' := 5) (l' := [some (.ref b)]) (st' := [.ref b, .ref (b + 1)]) (fun _ => rfl) ?_
  refine t_gi (rfl : mfetch 15 5 = some (5, .getfield 36, 3, 1, 0, 0)) hb.1 rfl ?_
  obtain ⟨v1, hv1, hf⟩ := ob hf
  refine t_cs (as := [.ref (b + 1), .int (s b 0)]) (st := []) (Or.inr rfl) (rfl : mfetch 15 8 = some (8, .invokestatic 64, 3, 106, 1, 0)) rfl rfl rfl (ok_C_sumOf hb.2.1 (isH_le hb 1) hv1) ?_
  cases hf; exact mEnds.rt (fun _ => rfl)
def H_coldestNow_5 (b : Nat) (s : sg) : Nat → Int32 → Int32 → Option Int32
  | 0, _, _ => none
  | fu + 1, x1, x2 =>
  if x2 < s b 0 then
    (midx x2 6).bind fun j1 =>
    H_coldestNow_5 b s fu (if s (b + 1) j1 < x1 then s (b + 1) j1 else x1) (x2 + (nI 1))
  else
    some x1
set_option maxRecDepth 100000 in
theorem ok_H_coldestNow_5 {b : Nat} {s : sg} (hb : isH b) : ∀ (fu : Nat) (x1 : Int32) (x2 : Int32) (rv : Int32), H_coldestNow_5 b s fu x1 x2 = some rv → mEnds [] 0 16 (5, [some (.ref b), some (.int x1), some (.int x2)], [], hp shC s, 0, 0) (some (.int rv), hp shC s, 0, 0)
  | 0, _, _, _, hf => by cases hf
  | fu + 1, x1, x2, rv, hf => by
    rw [H_coldestNow_5] at hf
    refine mEnds.stp 2 (pc' := 7) (l' := [some (.ref b), some (.int x1), some (.int x2)]) (st' := [.ref b, .int x2]) (fun _ => rfl) ?_
    refine t_gi (rfl : mfetch 16 7 = some (7, .getfield 36, 3, 1, 0, 0)) hb.1 rfl ?_
    by_cases hc1 : x2 < s b 0
    · rw [if_pos hc1] at hf
      refine t_cF (rfl : mfetch 16 10 = some (10, .if_icmp .ge 20, 3, 0, 0, 0)) (k_ge' hc1) ?_
      refine mEnds.stp 2 (pc' := 15) (l' := [some (.ref b), some (.int x1), some (.int x2)]) (st' := [.ref b, .int x1]) (fun _ => rfl) ?_
      refine t_gr (rfl : mfetch 16 15 = some (15, .getfield 9, 3, 1, 5, 0)) hb.1 rfl ?_
      refine mEnds.stp 1 (pc' := 19) (l' := [some (.ref b), some (.int x1), some (.int x2)]) (st' := [.int x2, .ref (b + 1), .int x1]) (fun _ => rfl) ?_
      obtain ⟨j1, hj1, hf⟩ := ob hf
      refine t_ia (rfl : mfetch 16 19 = some (19, .iaload, 1, 0, 0, 0)) hb.2.1 (isH_le hb 1) hj1 ?_
      refine mEnds.stp 4 (pc' := 5) (l' := [some (.ref b), some (.int (if s (b + 1) j1 < x1 then s (b + 1) j1 else x1)), some (.int (x2 + (nI 1)))]) (st' := []) (fun _ => rfl) ?_
      refine mEnds.cut (l := [some (.ref b), some (.int (if s (b + 1) j1 < x1 then s (b + 1) j1 else x1)), some (.int (x2 + (nI 1)))]) ⟨rfl, ⟨rfl, ⟨rfl, trivial⟩⟩⟩ ?_
      exact ok_H_coldestNow_5 hb fu (if s (b + 1) j1 < x1 then s (b + 1) j1 else x1) (x2 + (nI 1)) _ hf
    · rw [if_neg hc1] at hf
      refine t_cT (t := 30) (rfl : mfetch 16 10 = some (10, .if_icmp .ge 20, 3, 0, 0, 0)) rfl (k_ge hc1) ?_
      refine mEnds.stp 1 (pc' := 31) (l' := [some (.ref b), some (.int x1), some (.int x2)]) (st' := [.int x1]) (fun _ => rfl) ?_
      cases hf; exact mEnds.rt (fun _ => rfl)
def H_coldestNow (b : Nat) (s : sg) : Option Int32 :=
  H_coldestNow_5 b s FU (nI 99) (nI 0)
set_option maxRecDepth 100000 in
theorem ok_H_coldestNow {b : Nat} (hb : isH b) {s : sg} {rv : Int32} (hf : H_coldestNow b s = some rv) : mEnds [] 0 16 (0, [some (.ref b), none, none], [], hp shC s, 0, 0) (some (.int rv), hp shC s, 0, 0) := by
  unfold H_coldestNow at hf
  refine mEnds.stp 4 (pc' := 5) (l' := [some (.ref b), some (.int (nI 99)), some (.int (nI 0))]) (st' := []) (fun _ => rfl) ?_
  refine mEnds.cut (l := [some (.ref b), some (.int (nI 99)), some (.int (nI 0))]) ⟨rfl, ⟨rfl, ⟨rfl, trivial⟩⟩⟩ ?_
  exact ok_H_coldestNow_5 hb FU (nI 99) (nI 0) _ hf
def H_isLike_2 (b : Nat) (b2 : Nat) (s : sg) : Nat → Int32 → Option Int32
  | 0, _ => none
  | fu + 1, x2 =>
  if x2 < s b 0 then
    (midx x2 6).bind fun j1 =>
    (midx x2 6).bind fun j2 =>
    if s (b + 1) j1 = s (b2 + 1) j2 then
      H_isLike_2 b b2 s fu (x2 + (nI 1))
    else
      some (nI 0)
  else
    if s b 1 = s b2 1 then
      some (nI 1)
    else
      some (nI 0)
set_option maxRecDepth 100000 in
theorem ok_H_isLike_2 {b : Nat} {b2 : Nat} {s : sg} (hb : isH b) (hb2 : isH b2) : ∀ (fu : Nat) (x2 : Int32) (rv : Int32), H_isLike_2 b b2 s fu x2 = some rv → mEnds [] 0 17 (2, [some (.ref b), some (.ref b2), some (.int x2)], [], hp shC s, 0, 0) (some (.int rv), hp shC s, 0, 0)
  | 0, _, _, hf => by cases hf
  | fu + 1, x2, rv, hf => by
    rw [H_isLike_2] at hf
    refine mEnds.stp 2 (pc' := 4) (l' := [some (.ref b), some (.ref b2), some (.int x2)]) (st' := [.ref b, .int x2]) (fun _ => rfl) ?_
    refine t_gi (rfl : mfetch 17 4 = some (4, .getfield 36, 3, 1, 0, 0)) hb.1 rfl ?_
    by_cases hc1 : x2 < s b 0
    · rw [if_pos hc1] at hf
      refine t_cF (rfl : mfetch 17 7 = some (7, .if_icmp .ge 26, 3, 0, 0, 0)) (k_ge' hc1) ?_
      refine mEnds.stp 1 (pc' := 11) (l' := [some (.ref b), some (.ref b2), some (.int x2)]) (st' := [.ref b]) (fun _ => rfl) ?_
      refine t_gr (rfl : mfetch 17 11 = some (11, .getfield 9, 3, 1, 5, 0)) hb.1 rfl ?_
      refine mEnds.stp 1 (pc' := 15) (l' := [some (.ref b), some (.ref b2), some (.int x2)]) (st' := [.int x2, .ref (b + 1)]) (fun _ => rfl) ?_
      obtain ⟨j1, hj1, hf⟩ := ob hf
      refine t_ia (rfl : mfetch 17 15 = some (15, .iaload, 1, 0, 0, 0)) hb.2.1 (isH_le hb 1) hj1 ?_
      refine mEnds.stp 1 (pc' := 17) (l' := [some (.ref b), some (.ref b2), some (.int x2)]) (st' := [.ref b2, .int (s (b + 1) j1)]) (fun _ => rfl) ?_
      refine t_gr (rfl : mfetch 17 17 = some (17, .getfield 9, 3, 1, 5, 0)) hb2.1 rfl ?_
      refine mEnds.stp 1 (pc' := 21) (l' := [some (.ref b), some (.ref b2), some (.int x2)]) (st' := [.int x2, .ref (b2 + 1), .int (s (b + 1) j1)]) (fun _ => rfl) ?_
      obtain ⟨j2, hj2, hf⟩ := ob hf
      refine t_ia (rfl : mfetch 17 21 = some (21, .iaload, 1, 0, 0, 0)) hb2.2.1 (isH_le hb2 1) hj2 ?_
      by_cases hc3 : s (b + 1) j1 = s (b2 + 1) j2
      · rw [if_pos hc3] at hf
        refine t_cT (t := 27) (rfl : mfetch 17 22 = some (22, .if_icmp .eq 5, 3, 0, 0, 0)) rfl (k_eq hc3) ?_
        refine mEnds.stp 2 (pc' := 2) (l' := [some (.ref b), some (.ref b2), some (.int (x2 + (nI 1)))]) (st' := []) (fun _ => rfl) ?_
        refine mEnds.cut (l := [some (.ref b), some (.ref b2), some (.int (x2 + (nI 1)))]) ⟨rfl, ⟨rfl, ⟨rfl, trivial⟩⟩⟩ ?_
        exact ok_H_isLike_2 hb hb2 fu (x2 + (nI 1)) _ hf
      · rw [if_neg hc3] at hf
        refine t_cF (rfl : mfetch 17 22 = some (22, .if_icmp .eq 5, 3, 0, 0, 0)) (k_eq' hc3) ?_
        refine mEnds.stp 1 (pc' := 26) (l' := [some (.ref b), some (.ref b2), some (.int x2)]) (st' := [.int (nI 0)]) (fun _ => rfl) ?_
        cases hf; exact mEnds.rt (fun _ => rfl)
    · rw [if_neg hc1] at hf
      refine t_cT (t := 33) (rfl : mfetch 17 7 = some (7, .if_icmp .ge 26, 3, 0, 0, 0)) rfl (k_ge hc1) ?_
      refine mEnds.stp 1 (pc' := 34) (l' := [some (.ref b), some (.ref b2), some (.int x2)]) (st' := [.ref b]) (fun _ => rfl) ?_
      refine t_gi (rfl : mfetch 17 34 = some (34, .getfield 40, 3, 1, 1, 0)) hb.1 rfl ?_
      refine mEnds.stp 1 (pc' := 38) (l' := [some (.ref b), some (.ref b2), some (.int x2)]) (st' := [.ref b2, .int (s b 1)]) (fun _ => rfl) ?_
      refine t_gi (rfl : mfetch 17 38 = some (38, .getfield 40, 3, 1, 1, 0)) hb2.1 rfl ?_
      by_cases hc2 : s b 1 = s b2 1
      · rw [if_pos hc2] at hf
        refine t_cF (rfl : mfetch 17 41 = some (41, .if_icmp .ne 7, 3, 0, 0, 0)) (k_ne' hc2) ?_
        refine mEnds.stp 2 (pc' := 49) (l' := [some (.ref b), some (.ref b2), some (.int x2)]) (st' := [.int (nI 1)]) (fun _ => rfl) ?_
        cases hf; exact mEnds.rt (fun _ => rfl)
      · rw [if_neg hc2] at hf
        refine t_cT (t := 48) (rfl : mfetch 17 41 = some (41, .if_icmp .ne 7, 3, 0, 0, 0)) rfl (k_ne hc2) ?_
        refine mEnds.stp 1 (pc' := 49) (l' := [some (.ref b), some (.ref b2), some (.int x2)]) (st' := [.int (nI 0)]) (fun _ => rfl) ?_
        cases hf; exact mEnds.rt (fun _ => rfl)
def H_isLike (b : Nat) (b2 : Nat) (s : sg) : Option Int32 :=
  H_isLike_2 b b2 s FU (nI 0)
set_option maxRecDepth 100000 in
theorem ok_H_isLike {b : Nat} {b2 : Nat} (hb : isH b) (hb2 : isH b2) {s : sg} {rv : Int32} (hf : H_isLike b b2 s = some rv) : mEnds [] 0 17 (0, [some (.ref b), some (.ref b2), none], [], hp shC s, 0, 0) (some (.int rv), hp shC s, 0, 0) := by
  unfold H_isLike at hf
  refine mEnds.stp 2 (pc' := 2) (l' := [some (.ref b), some (.ref b2), some (.int (nI 0))]) (st' := []) (fun _ => rfl) ?_
  refine mEnds.cut (l := [some (.ref b), some (.ref b2), some (.int (nI 0))]) ⟨rfl, ⟨rfl, ⟨rfl, trivial⟩⟩⟩ ?_
  exact ok_H_isLike_2 hb hb2 FU (nI 0) _ hf
def C_within (x0 : Int32) (x1 : Int32) (x2 : Int32) (s : sg) : Option Int32 :=
  if x0 < x1 then
    some (nI 0)
  else
    if x2 < x0 then
      some (nI 0)
    else
      some (nI 1)
set_option maxRecDepth 100000 in
theorem ok_C_within {x0 : Int32} {x1 : Int32} {x2 : Int32} {s : sg} {rv : Int32} (hf : C_within x0 x1 x2 s = some rv) : mEnds [] 0 105 (0, [some (.int x0), some (.int x1), some (.int x2)], [], hp shC s, 0, 0) (some (.int rv), hp shC s, 0, 0) := by
  unfold C_within at hf
  refine mEnds.stp 2 (pc' := 2) (l' := [some (.int x0), some (.int x1), some (.int x2)]) (st' := [.int x1, .int x0]) (fun _ => rfl) ?_
  by_cases hc1 : x0 < x1
  · rw [if_pos hc1] at hf
    refine t_cT (t := 14) (rfl : mfetch 105 2 = some (2, .if_icmp .lt 12, 3, 0, 0, 0)) rfl (k_lt hc1) ?_
    refine mEnds.stp 1 (pc' := 15) (l' := [some (.int x0), some (.int x1), some (.int x2)]) (st' := [.int (nI 0)]) (fun _ => rfl) ?_
    cases hf; exact mEnds.rt (fun _ => rfl)
  · rw [if_neg hc1] at hf
    refine t_cF (rfl : mfetch 105 2 = some (2, .if_icmp .lt 12, 3, 0, 0, 0)) (k_lt' hc1) ?_
    refine mEnds.stp 2 (pc' := 7) (l' := [some (.int x0), some (.int x1), some (.int x2)]) (st' := [.int x2, .int x0]) (fun _ => rfl) ?_
    by_cases hc2 : x2 < x0
    · rw [if_pos hc2] at hf
      refine t_cT (t := 14) (rfl : mfetch 105 7 = some (7, .if_icmp .gt 7, 3, 0, 0, 0)) rfl (k_gt hc2) ?_
      refine mEnds.stp 1 (pc' := 15) (l' := [some (.int x0), some (.int x1), some (.int x2)]) (st' := [.int (nI 0)]) (fun _ => rfl) ?_
      cases hf; exact mEnds.rt (fun _ => rfl)
    · rw [if_neg hc2] at hf
      refine t_cF (rfl : mfetch 105 7 = some (7, .if_icmp .gt 7, 3, 0, 0, 0)) (k_gt' hc2) ?_
      refine mEnds.stp 2 (pc' := 15) (l' := [some (.int x0), some (.int x1), some (.int x2)]) (st' := [.int (nI 1)]) (fun _ => rfl) ?_
      cases hf; exact mEnds.rt (fun _ => rfl)
def H_markRefused (b : Nat) (x1 : Int32) (x2 : Int32) (s : sg) : Option Int32 :=
  (H_hasRoom b x1 s).bind fun v1 =>
  if v1 = 0 then
    some (-1)
  else
    (C_within x2 (nI 0) (nI 99) s).bind fun v2 =>
    if v2 = 0 then
      some (-1)
    else
      (H_hasTongue b x1 s).bind fun v3 =>
      if v3 = 0 then
        some (-2)
      else
        some (nI 0)
set_option maxRecDepth 100000 in
theorem ok_H_markRefused {b : Nat} {x1 : Int32} {x2 : Int32} (hb : isH b) {s : sg} {rv : Int32} (hf : H_markRefused b x1 x2 s = some rv) : mEnds [] 1 18 (0, [some (.ref b), some (.int x1), some (.int x2)], [], hp shC s, 0, 0) (some (.int rv), hp shC s, 0, 0) := by
  unfold H_markRefused at hf
  refine mEnds.stp 2 (pc' := 2) (l' := [some (.ref b), some (.int x1), some (.int x2)]) (st' := [.int x1, .ref b]) (fun _ => rfl) ?_
  obtain ⟨v1, hv1, hf⟩ := ob hf
  refine t_cv (as := [.int x1]) (st := []) (rfl : mfetch 18 2 = some (2, .invokevirtual 74, 3, 8, 0, 0)) hb.1 rfl rfl rfl rfl (ok_H_hasRoom hb hv1) ?_
  by_cases hc1 : v1 = 0
  · rw [if_pos hc1] at hf
    refine t_jT (t := 18) (rfl : mfetch 18 5 = some (5, .ifCond .eq 13, 3, 0, 0, 0)) rfl (k_eq hc1) ?_
    refine mEnds.stp 1 (pc' := 19) (l' := [some (.ref b), some (.int x1), some (.int x2)]) (st' := [.int (-1)]) (fun _ => rfl) ?_
    cases hf; exact mEnds.rt (fun _ => rfl)
  · rw [if_neg hc1] at hf
    refine t_jF (rfl : mfetch 18 5 = some (5, .ifCond .eq 13, 3, 0, 0, 0)) (k_eq' hc1) ?_
    refine mEnds.stp 3 (pc' := 12) (l' := [some (.ref b), some (.int x1), some (.int x2)]) (st' := [.int (nI 99), .int (nI 0), .int x2]) (fun _ => rfl) ?_
    obtain ⟨v2, hv2, hf⟩ := ob hf
    refine t_cs (as := [.int x2, .int (nI 0), .int (nI 99)]) (st := []) (Or.inr rfl) (rfl : mfetch 18 12 = some (12, .invokestatic 78, 3, 105, 1, 0)) rfl rfl rfl (ok_C_within hv2) ?_
    by_cases hc2 : v2 = 0
    · rw [if_pos hc2] at hf
      refine t_jF (rfl : mfetch 18 15 = some (15, .ifCond .ne 5, 3, 0, 0, 0)) (k_ne' hc2) ?_
      refine mEnds.stp 1 (pc' := 19) (l' := [some (.ref b), some (.int x1), some (.int x2)]) (st' := [.int (-1)]) (fun _ => rfl) ?_
      cases hf; exact mEnds.rt (fun _ => rfl)
    · rw [if_neg hc2] at hf
      refine t_jT (t := 20) (rfl : mfetch 18 15 = some (15, .ifCond .ne 5, 3, 0, 0, 0)) rfl (k_ne hc2) ?_
      refine mEnds.stp 2 (pc' := 22) (l' := [some (.ref b), some (.int x1), some (.int x2)]) (st' := [.int x1, .ref b]) (fun _ => rfl) ?_
      obtain ⟨v3, hv3, hf⟩ := ob hf
      refine t_cv (as := [.int x1]) (st := []) (rfl : mfetch 18 22 = some (22, .invokevirtual 82, 3, 10, 0, 0)) hb.1 rfl rfl rfl rfl (ok_H_hasTongue hb hv3) ?_
      by_cases hc3 : v3 = 0
      · rw [if_pos hc3] at hf
        refine t_jT (t := 32) (rfl : mfetch 18 25 = some (25, .ifCond .eq 7, 3, 0, 0, 0)) rfl (k_eq hc3) ?_
        refine mEnds.stp 1 (pc' := 34) (l' := [some (.ref b), some (.int x1), some (.int x2)]) (st' := [.int (-2)]) (fun _ => rfl) ?_
        cases hf; exact mEnds.rt (fun _ => rfl)
      · rw [if_neg hc3] at hf
        refine t_jF (rfl : mfetch 18 25 = some (25, .ifCond .eq 7, 3, 0, 0, 0)) (k_eq' hc3) ?_
        refine mEnds.stp 2 (pc' := 34) (l' := [some (.ref b), some (.int x1), some (.int x2)]) (st' := [.int (nI 0)]) (fun _ => rfl) ?_
        cases hf; exact mEnds.rt (fun _ => rfl)
def H_takesMarkAndHour (b : Nat) (x1 : Int32) (x2 : Int32) (s : sg) : Option (Int32 × sg) :=
  (H_markRefused b x1 x2 s).bind fun v1 =>
  if v1 = 0 then
    if s b 2 < nI 999 then
      (midx x1 6).bind fun j1 =>
      (some (up s (b + 5) j1 x2)).bind fun s1 =>
      (H_passHour b s1).bind fun s2 =>
      some (nI 1, s2)
    else
      some (nI 0, s)
  else
    some (nI 0, s)
set_option maxRecDepth 100000 in
theorem ok_H_takesMarkAndHour {b : Nat} {x1 : Int32} {x2 : Int32} (hb : isH b) {s : sg} {rv : (Int32 × sg)} (hf : H_takesMarkAndHour b x1 x2 s = some rv) : mEnds [] 4 19 (0, [some (.ref b), some (.int x1), some (.int x2)], [], hp shC s, 0, 0) (some (.int rv.1), hp shC rv.2, 0, 0) := by
  unfold H_takesMarkAndHour at hf
  refine mEnds.stp 3 (pc' := 3) (l' := [some (.ref b), some (.int x1), some (.int x2)]) (st' := [.int x2, .int x1, .ref b]) (fun _ => rfl) ?_
  obtain ⟨v1, hv1, hf⟩ := ob hf
  refine t_cv (as := [.int x1, .int x2]) (st := []) (rfl : mfetch 19 3 = some (3, .invokevirtual 85, 3, 18, 0, 0)) hb.1 rfl rfl rfl rfl ((ok_H_markRefused hb hv1).deep 2) ?_
  by_cases hc1 : v1 = 0
  · rw [if_pos hc1] at hf
    refine t_jF (rfl : mfetch 19 6 = some (6, .ifCond .ne 13, 3, 0, 0, 0)) (k_ne' hc1) ?_
    refine mEnds.stp 1 (pc' := 10) (l' := [some (.ref b), some (.int x1), some (.int x2)]) (st' := [.ref b]) (fun _ => rfl) ?_
    refine t_gi (rfl : mfetch 19 10 = some (10, .getfield 43, 3, 1, 2, 0)) hb.1 rfl ?_
    refine mEnds.stp 1 (pc' := 16) (l' := [some (.ref b), some (.int x1), some (.int x2)]) (st' := [.int (nI 999), .int (s b 2)]) (fun _ => rfl) ?_
    by_cases hc2 : s b 2 < nI 999
    · rw [if_pos hc2] at hf
      refine t_cT (t := 21) (rfl : mfetch 19 16 = some (16, .if_icmp .lt 5, 3, 0, 0, 0)) rfl (k_lt hc2) ?_
      refine mEnds.stp 1 (pc' := 22) (l' := [some (.ref b), some (.int x1), some (.int x2)]) (st' := [.ref b]) (fun _ => rfl) ?_
      refine t_gr (rfl : mfetch 19 22 = some (22, .getfield 24, 3, 1, 9, 0)) hb.1 rfl ?_
      refine mEnds.stp 2 (pc' := 27) (l' := [some (.ref b), some (.int x1), some (.int x2)]) (st' := [.int x2, .int x1, .ref (b + 5)]) (fun _ => rfl) ?_
      obtain ⟨j1, hj1, hf⟩ := ob hf
      obtain ⟨s1, hs1, hf⟩ := ob hf
      refine t_is (rfl : mfetch 19 27 = some (27, .iastore, 1, 0, 0, 0)) hb.2.2.2.2.2.1 (isH_le hb 5) hj1 hs1 ?_
      refine mEnds.stp 1 (pc' := 29) (l' := [some (.ref b), some (.int x1), some (.int x2)]) (st' := [.ref b]) (fun _ => rfl) ?_
      obtain ⟨s2, hs2, hf⟩ := ob hf
      refine t_cv (as := []) (st := []) (rfl : mfetch 19 29 = some (29, .invokevirtual 88, 3, 23, 0, 0)) hb.1 rfl rfl rfl rfl (ok_H_passHour hb hs2) ?_
      refine mEnds.stp 1 (pc' := 33) (l' := [some (.ref b), some (.int x1), some (.int x2)]) (st' := [.int (nI 1)]) (fun _ => rfl) ?_
      exact mEnds.rti (Option.some.inj hf) (fun _ => rfl)
    · rw [if_neg hc2] at hf
      refine t_cF (rfl : mfetch 19 16 = some (16, .if_icmp .lt 5, 3, 0, 0, 0)) (k_lt' hc2) ?_
      refine mEnds.stp 1 (pc' := 20) (l' := [some (.ref b), some (.int x1), some (.int x2)]) (st' := [.int (nI 0)]) (fun _ => rfl) ?_
      exact mEnds.rti (Option.some.inj hf) (fun _ => rfl)
  · rw [if_neg hc1] at hf
    refine t_jT (t := 19) (rfl : mfetch 19 6 = some (6, .ifCond .ne 13, 3, 0, 0, 0)) rfl (k_ne hc1) ?_
    refine mEnds.stp 1 (pc' := 20) (l' := [some (.ref b), some (.int x1), some (.int x2)]) (st' := [.int (nI 0)]) (fun _ => rfl) ?_
    exact mEnds.rti (Option.some.inj hf) (fun _ => rfl)
def H_takeTongue (b : Nat) (x1 : Int32) (s : sg) : Option sg :=
  (midx x1 6).bind fun j1 =>
  (some (up s (b + 4) j1 (-1))).bind fun s1 =>
  (some (up s1 b 1 ((s1 b 1) &&& (((nI 1) <<< (x1 &&& 31)) ^^^ (-1))))).bind fun s2 =>
  some s2
set_option maxRecDepth 100000 in
theorem ok_H_takeTongue {b : Nat} {x1 : Int32} (hb : isH b) {s : sg} {rv : sg} (hf : H_takeTongue b x1 s = some rv) : mEnds [] 0 20 (0, [some (.ref b), some (.int x1)], [], hp shC s, 0, 0) (none, hp shC rv, 0, 0) := by
  unfold H_takeTongue at hf
  refine mEnds.stp 1 (pc' := 1) (l' := [some (.ref b), some (.int x1)]) (st' := [.ref b]) (fun _ => rfl) ?_
  refine t_gr (rfl : mfetch 20 1 = some (1, .getfield 21, 3, 1, 8, 0)) hb.1 rfl ?_
  refine mEnds.stp 2 (pc' := 6) (l' := [some (.ref b), some (.int x1)]) (st' := [.int (-1), .int x1, .ref (b + 4)]) (fun _ => rfl) ?_
  obtain ⟨j1, hj1, hf⟩ := ob hf
  obtain ⟨s1, hs1, hf⟩ := ob hf
  refine t_is (rfl : mfetch 20 6 = some (6, .iastore, 1, 0, 0, 0)) hb.2.2.2.2.1 (isH_le hb 4) hj1 hs1 ?_
  refine mEnds.stp 2 (pc' := 9) (l' := [some (.ref b), some (.int x1)]) (st' := [.ref b, .ref b]) (fun _ => rfl) ?_
  refine t_gi (rfl : mfetch 20 9 = some (9, .getfield 40, 3, 1, 1, 0)) hb.1 rfl ?_
  refine mEnds.stp 6 (pc' := 18) (l' := [some (.ref b), some (.int x1)]) (st' := [.int ((s1 b 1) &&& (((nI 1) <<< (x1 &&& 31)) ^^^ (-1))), .ref b]) (fun _ => rfl) ?_
  obtain ⟨s2, hs2, hf⟩ := ob hf
  refine t_pi (rfl : mfetch 20 18 = some (18, .putfield 40, 3, 1, 1, 0)) hb.1 rfl (isH_le hb 0) rfl hs2 ?_
  cases hf; exact mEnds.rt (fun _ => rfl)
def C_exchange (p : Nat) (n : Nat) (x1 : Int32) (x2 : Int32) (s : sg) : Option (Int32 × sg) :=
  (midx x1 n).bind fun j1 =>
  (midx x1 n).bind fun j2 =>
  (some (up s p j2 x2)).bind fun s1 =>
  some (s p j1, s1)
set_option maxRecDepth 100000 in
theorem ok_C_exchange {p : Nat} {n : Nat} {x1 : Int32} {x2 : Int32} (hp1 : shC[p]? = some (.inl (0, n))) (hp3 : Nat.ble mn0 p = true) {s : sg} {rv : (Int32 × sg)} (hf : C_exchange p n x1 x2 s = some rv) : mEnds [] 0 107 (0, [some (.ref p), some (.int x1), some (.int x2), none], [], hp shC s, 0, 0) (some (.int rv.1), hp shC rv.2, 0, 0) := by
  unfold C_exchange at hf
  refine mEnds.stp 2 (pc' := 2) (l' := [some (.ref p), some (.int x1), some (.int x2), none]) (st' := [.int x1, .ref p]) (fun _ => rfl) ?_
  obtain ⟨j1, hj1, hf⟩ := ob hf
  refine t_ia (rfl : mfetch 107 2 = some (2, .iaload, 1, 0, 0, 0)) hp1 hp3 hj1 ?_
  refine mEnds.stp 4 (pc' := 7) (l' := [some (.ref p), some (.int x1), some (.int x2), some (.int (s p j1))]) (st' := [.int x2, .int x1, .ref p]) (fun _ => rfl) ?_
  obtain ⟨j2, hj2, hf⟩ := ob hf
  obtain ⟨s1, hs1, hf⟩ := ob hf
  refine t_is (rfl : mfetch 107 7 = some (7, .iastore, 1, 0, 0, 0)) hp1 hp3 hj2 hs1 ?_
  refine mEnds.stp 1 (pc' := 9) (l' := [some (.ref p), some (.int x1), some (.int x2), some (.int (s p j1))]) (st' := [.int (s p j1)]) (fun _ => rfl) ?_
  exact mEnds.rti (Option.some.inj hf) (fun _ => rfl)
def H_exchangeTongues_53 (b : Nat) (x2 : Int32) (s : sg) : Option sg :=
  (H_hasTongue b x2 s).bind fun v1 =>
  if v1 = 0 then
    (H_takeTongue b x2 s).bind fun s1 =>
    some s1
  else
    some s
set_option maxRecDepth 100000 in
theorem ok_H_exchangeTongues_53 {b : Nat} {x2 : Int32} (hb : isH b) {s : sg} {rv : sg} (hf : H_exchangeTongues_53 b x2 s = some rv) : mEnds [] 1 21 (53, [some (.ref b), none, some (.int x2)], [], hp shC s, 0, 0) (none, hp shC rv, 0, 0) := by
  unfold H_exchangeTongues_53 at hf
  refine mEnds.stp 2 (pc' := 55) (l' := [some (.ref b), none, some (.int x2)]) (st' := [.int x2, .ref b]) (fun _ => rfl) ?_
  obtain ⟨v1, hv1, hf⟩ := ob hf
  refine t_cv (as := [.int x2]) (st := []) (rfl : mfetch 21 55 = some (55, .invokevirtual 82, 3, 10, 0, 0)) hb.1 rfl rfl rfl rfl (ok_H_hasTongue hb hv1) ?_
  by_cases hc1 : v1 = 0
  · rw [if_pos hc1] at hf
    refine t_jF (rfl : mfetch 21 58 = some (58, .ifCond .ne 8, 3, 0, 0, 0)) (k_ne' hc1) ?_
    refine mEnds.stp 2 (pc' := 63) (l' := [some (.ref b), none, some (.int x2)]) (st' := [.int x2, .ref b]) (fun _ => rfl) ?_
    obtain ⟨s1, hs1, hf⟩ := ob hf
    refine t_cv (as := [.int x2]) (st := []) (rfl : mfetch 21 63 = some (63, .invokevirtual 95, 3, 20, 0, 0)) hb.1 rfl rfl rfl rfl (ok_H_takeTongue hb hs1) ?_
    cases hf; exact mEnds.rt (fun _ => rfl)
  · rw [if_neg hc1] at hf
    refine t_jT (t := 66) (rfl : mfetch 21 58 = some (58, .ifCond .ne 8, 3, 0, 0, 0)) rfl (k_ne hc1) ?_
    cases hf; exact mEnds.rt (fun _ => rfl)
def H_exchangeTongues (b : Nat) (x1 : Int32) (x2 : Int32) (s : sg) : Option sg :=
  (midx x1 6).bind fun j1 =>
  (C_exchange (b + 4) 6 x2 (s (b + 4) j1) s).bind fun v1 =>
  (midx x1 6).bind fun j2 =>
  (some (up v1.2 (b + 4) j2 v1.1)).bind fun s1 =>
  (midx x1 6).bind fun j3 =>
  (C_exchange (b + 5) 6 x2 (s1 (b + 5) j3) s1).bind fun v2 =>
  (midx x1 6).bind fun j4 =>
  (some (up v2.2 (b + 5) j4 v2.1)).bind fun s2 =>
  (H_hasTongue b x1 s2).bind fun v3 =>
  if v3 = 0 then
    (H_takeTongue b x1 s2).bind fun s3 =>
    H_exchangeTongues_53 b x2 s3
  else
    H_exchangeTongues_53 b x2 s2
set_option maxRecDepth 100000 in
theorem ok_H_exchangeTongues {b : Nat} {x1 : Int32} {x2 : Int32} (hb : isH b) {s : sg} {rv : sg} (hf : H_exchangeTongues b x1 x2 s = some rv) : mEnds [] 1 21 (0, [some (.ref b), some (.int x1), some (.int x2)], [], hp shC s, 0, 0) (none, hp shC rv, 0, 0) := by
  unfold H_exchangeTongues at hf
  refine mEnds.stp 1 (pc' := 1) (l' := [some (.ref b), some (.int x1), some (.int x2)]) (st' := [.ref b]) (fun _ => rfl) ?_
  refine t_gr (rfl : mfetch 21 1 = some (1, .getfield 21, 3, 1, 8, 0)) hb.1 rfl ?_
  refine mEnds.stp 2 (pc' := 6) (l' := [some (.ref b), some (.int x1), some (.int x2)]) (st' := [.ref b, .int x1, .ref (b + 4)]) (fun _ => rfl) ?_
  refine t_gr (rfl : mfetch 21 6 = some (6, .getfield 21, 3, 1, 8, 0)) hb.1 rfl ?_
  refine mEnds.stp 2 (pc' := 11) (l' := [some (.ref b), some (.int x1), some (.int x2)]) (st' := [.ref b, .int x2, .ref (b + 4), .int x1, .ref (b + 4)]) (fun _ => rfl) ?_
  refine t_gr (rfl : mfetch 21 11 = some (11, .getfield 21, 3, 1, 8, 0)) hb.1 rfl ?_
  refine mEnds.stp 1 (pc' := 15) (l' := [some (.ref b), some (.int x1), some (.int x2)]) (st' := [.int x1, .ref (b + 4), .int x2, .ref (b + 4), .int x1, .ref (b + 4)]) (fun _ => rfl) ?_
  obtain ⟨j1, hj1, hf⟩ := ob hf
  refine t_ia (rfl : mfetch 21 15 = some (15, .iaload, 1, 0, 0, 0)) hb.2.2.2.2.1 (isH_le hb 4) hj1 ?_
  obtain ⟨v1, hv1, hf⟩ := ob hf
  refine t_cs (as := [.ref (b + 4), .int x2, .int (s (b + 4) j1)]) (st := [.int x1, .ref (b + 4)]) (Or.inr rfl) (rfl : mfetch 21 16 = some (16, .invokestatic 91, 3, 107, 1, 0)) rfl rfl rfl (ok_C_exchange hb.2.2.2.2.1 (isH_le hb 4) hv1) ?_
  obtain ⟨j2, hj2, hf⟩ := ob hf
  obtain ⟨s1, hs1, hf⟩ := ob hf
  refine t_is (rfl : mfetch 21 19 = some (19, .iastore, 1, 0, 0, 0)) hb.2.2.2.2.1 (isH_le hb 4) hj2 hs1 ?_
  refine mEnds.stp 1 (pc' := 21) (l' := [some (.ref b), some (.int x1), some (.int x2)]) (st' := [.ref b]) (fun _ => rfl) ?_
  refine t_gr (rfl : mfetch 21 21 = some (21, .getfield 24, 3, 1, 9, 0)) hb.1 rfl ?_
  refine mEnds.stp 2 (pc' := 26) (l' := [some (.ref b), some (.int x1), some (.int x2)]) (st' := [.ref b, .int x1, .ref (b + 5)]) (fun _ => rfl) ?_
  refine t_gr (rfl : mfetch 21 26 = some (26, .getfield 24, 3, 1, 9, 0)) hb.1 rfl ?_
  refine mEnds.stp 2 (pc' := 31) (l' := [some (.ref b), some (.int x1), some (.int x2)]) (st' := [.ref b, .int x2, .ref (b + 5), .int x1, .ref (b + 5)]) (fun _ => rfl) ?_
  refine t_gr (rfl : mfetch 21 31 = some (31, .getfield 24, 3, 1, 9, 0)) hb.1 rfl ?_
  refine mEnds.stp 1 (pc' := 35) (l' := [some (.ref b), some (.int x1), some (.int x2)]) (st' := [.int x1, .ref (b + 5), .int x2, .ref (b + 5), .int x1, .ref (b + 5)]) (fun _ => rfl) ?_
  obtain ⟨j3, hj3, hf⟩ := ob hf
  refine t_ia (rfl : mfetch 21 35 = some (35, .iaload, 1, 0, 0, 0)) hb.2.2.2.2.2.1 (isH_le hb 5) hj3 ?_
  obtain ⟨v2, hv2, hf⟩ := ob hf
  refine t_cs (as := [.ref (b + 5), .int x2, .int (s1 (b + 5) j3)]) (st := [.int x1, .ref (b + 5)]) (Or.inr rfl) (rfl : mfetch 21 36 = some (36, .invokestatic 91, 3, 107, 1, 0)) rfl rfl rfl (ok_C_exchange hb.2.2.2.2.2.1 (isH_le hb 5) hv2) ?_
  obtain ⟨j4, hj4, hf⟩ := ob hf
  obtain ⟨s2, hs2, hf⟩ := ob hf
  refine t_is (rfl : mfetch 21 39 = some (39, .iastore, 1, 0, 0, 0)) hb.2.2.2.2.2.1 (isH_le hb 5) hj4 hs2 ?_
  refine mEnds.stp 2 (pc' := 42) (l' := [some (.ref b), some (.int x1), some (.int x2)]) (st' := [.int x1, .ref b]) (fun _ => rfl) ?_
  obtain ⟨v3, hv3, hf⟩ := ob hf
  refine t_cv (as := [.int x1]) (st := []) (rfl : mfetch 21 42 = some (42, .invokevirtual 82, 3, 10, 0, 0)) hb.1 rfl rfl rfl rfl (ok_H_hasTongue hb hv3) ?_
  by_cases hc1 : v3 = 0
  · rw [if_pos hc1] at hf
    refine t_jF (rfl : mfetch 21 45 = some (45, .ifCond .ne 8, 3, 0, 0, 0)) (k_ne' hc1) ?_
    refine mEnds.stp 2 (pc' := 50) (l' := [some (.ref b), some (.int x1), some (.int x2)]) (st' := [.int x1, .ref b]) (fun _ => rfl) ?_
    obtain ⟨s3, hs3, hf⟩ := ob hf
    refine t_cv (as := [.int x1]) (st := []) (rfl : mfetch 21 50 = some (50, .invokevirtual 95, 3, 20, 0, 0)) hb.1 rfl rfl rfl rfl (ok_H_takeTongue hb hs3) ?_
    refine mEnds.cut (l := [some (.ref b), none, some (.int x2)]) ⟨rfl, ⟨rfl, trivial⟩⟩ ?_
    exact ok_H_exchangeTongues_53 hb hf
  · rw [if_neg hc1] at hf
    refine t_jT (t := 53) (rfl : mfetch 21 45 = some (45, .ifCond .ne 8, 3, 0, 0, 0)) rfl (k_ne hc1) ?_
    refine mEnds.cut (l := [some (.ref b), none, some (.int x2)]) ⟨rfl, ⟨rfl, trivial⟩⟩ ?_
    exact ok_H_exchangeTongues_53 hb hf
def H_passHours_7 (b : Nat) (x1 : Int32) (x2 : Int32) : Nat → Int32 → sg → Option (Int32 × sg)
  | 0, _, _ => none
  | fu + 1, x3, s =>
  if x3 < x1 then
    (H_passHour b s).bind fun s1 =>
    H_passHours_7 b x1 x2 fu (x3 + (nI 1)) s1
  else
    some ((s b 3) - x2, s)
set_option maxRecDepth 100000 in
theorem ok_H_passHours_7 {b : Nat} {x1 : Int32} {x2 : Int32} (hb : isH b) : ∀ (fu : Nat) (x3 : Int32) (s : sg) (rv : (Int32 × sg)), H_passHours_7 b x1 x2 fu x3 s = some rv → mEnds [] 4 22 (7, [some (.ref b), some (.int x1), some (.int x2), some (.int x3)], [], hp shC s, 0, 0) (some (.int rv.1), hp shC rv.2, 0, 0)
  | 0, _, _, _, hf => by cases hf
  | fu + 1, x3, s, rv, hf => by
    rw [H_passHours_7] at hf
    refine mEnds.stp 2 (pc' := 9) (l' := [some (.ref b), some (.int x1), some (.int x2), some (.int x3)]) (st' := [.int x1, .int x3]) (fun _ => rfl) ?_
    by_cases hc1 : x3 < x1
    · rw [if_pos hc1] at hf
      refine t_cF (rfl : mfetch 22 9 = some (9, .if_icmp .ge 13, 3, 0, 0, 0)) (k_ge' hc1) ?_
      refine mEnds.stp 1 (pc' := 13) (l' := [some (.ref b), some (.int x1), some (.int x2), some (.int x3)]) (st' := [.ref b]) (fun _ => rfl) ?_
      obtain ⟨s1, hs1, hf⟩ := ob hf
      refine t_cv (as := []) (st := []) (rfl : mfetch 22 13 = some (13, .invokevirtual 88, 3, 23, 0, 0)) hb.1 rfl rfl rfl rfl (ok_H_passHour hb hs1) ?_
      refine mEnds.stp 2 (pc' := 7) (l' := [some (.ref b), some (.int x1), some (.int x2), some (.int (x3 + (nI 1)))]) (st' := []) (fun _ => rfl) ?_
      refine mEnds.cut (l := [some (.ref b), some (.int x1), some (.int x2), some (.int (x3 + (nI 1)))]) ⟨rfl, ⟨rfl, ⟨rfl, ⟨rfl, trivial⟩⟩⟩⟩ ?_
      exact ok_H_passHours_7 hb fu (x3 + (nI 1)) s1 _ hf
    · rw [if_neg hc1] at hf
      refine t_cT (t := 22) (rfl : mfetch 22 9 = some (9, .if_icmp .ge 13, 3, 0, 0, 0)) rfl (k_ge hc1) ?_
      refine mEnds.stp 1 (pc' := 23) (l' := [some (.ref b), some (.int x1), some (.int x2), some (.int x3)]) (st' := [.ref b]) (fun _ => rfl) ?_
      refine t_gi (rfl : mfetch 22 23 = some (23, .getfield 46, 3, 1, 3, 0)) hb.1 rfl ?_
      refine mEnds.stp 2 (pc' := 28) (l' := [some (.ref b), some (.int x1), some (.int x2), some (.int x3)]) (st' := [.int ((s b 3) - x2)]) (fun _ => rfl) ?_
      exact mEnds.rti (Option.some.inj hf) (fun _ => rfl)
def H_passHours (b : Nat) (x1 : Int32) (s : sg) : Option (Int32 × sg) :=
  H_passHours_7 b x1 (s b 3) FU (nI 0) s
set_option maxRecDepth 100000 in
theorem ok_H_passHours {b : Nat} {x1 : Int32} (hb : isH b) {s : sg} {rv : (Int32 × sg)} (hf : H_passHours b x1 s = some rv) : mEnds [] 4 22 (0, [some (.ref b), some (.int x1), none, none], [], hp shC s, 0, 0) (some (.int rv.1), hp shC rv.2, 0, 0) := by
  unfold H_passHours at hf
  refine mEnds.stp 1 (pc' := 1) (l' := [some (.ref b), some (.int x1), none, none]) (st' := [.ref b]) (fun _ => rfl) ?_
  refine t_gi (rfl : mfetch 22 1 = some (1, .getfield 46, 3, 1, 3, 0)) hb.1 rfl ?_
  refine mEnds.stp 3 (pc' := 7) (l' := [some (.ref b), some (.int x1), some (.int (s b 3)), some (.int (nI 0))]) (st' := []) (fun _ => rfl) ?_
  refine mEnds.cut (l := [some (.ref b), some (.int x1), some (.int (s b 3)), some (.int (nI 0))]) ⟨rfl, ⟨rfl, ⟨rfl, ⟨rfl, trivial⟩⟩⟩⟩ ?_
  exact ok_H_passHours_7 hb FU (nI 0) s _ hf
def H_staysWarm_3 (b : Nat) (x1 : Int32) (x2 : Int32) (x3 : Int32) : Nat → Int32 → sg → Option (Int32 × sg)
  | 0, _, _ => none
  | fu + 1, x4, s =>
  if x4 < x2 then
    (H_passHour b s).bind fun s1 =>
    (midx x1 6).bind fun j1 =>
    if s1 (b + 1) j1 < x3 then
      some (nI 0, s1)
    else
      H_staysWarm_3 b x1 x2 x3 fu (x4 + (nI 1)) s1
  else
    some (nI 1, s)
set_option maxRecDepth 100000 in
theorem ok_H_staysWarm_3 {b : Nat} {x1 : Int32} {x2 : Int32} {x3 : Int32} (hb : isH b) : ∀ (fu : Nat) (x4 : Int32) (s : sg) (rv : (Int32 × sg)), H_staysWarm_3 b x1 x2 x3 fu x4 s = some rv → mEnds [] 4 27 (3, [some (.ref b), some (.int x1), some (.int x2), some (.int x3), some (.int x4)], [], hp shC s, 0, 0) (some (.int rv.1), hp shC rv.2, 0, 0)
  | 0, _, _, _, hf => by cases hf
  | fu + 1, x4, s, rv, hf => by
    rw [H_staysWarm_3] at hf
    refine mEnds.stp 2 (pc' := 6) (l' := [some (.ref b), some (.int x1), some (.int x2), some (.int x3), some (.int x4)]) (st' := [.int x2, .int x4]) (fun _ => rfl) ?_
    by_cases hc1 : x4 < x2
    · rw [if_pos hc1] at hf
      refine t_cF (rfl : mfetch 27 6 = some (6, .if_icmp .ge 25, 3, 0, 0, 0)) (k_ge' hc1) ?_
      refine mEnds.stp 1 (pc' := 10) (l' := [some (.ref b), some (.int x1), some (.int x2), some (.int x3), some (.int x4)]) (st' := [.ref b]) (fun _ => rfl) ?_
      obtain ⟨s1, hs1, hf⟩ := ob hf
      refine t_cv (as := []) (st := []) (rfl : mfetch 27 10 = some (10, .invokevirtual 88, 3, 23, 0, 0)) hb.1 rfl rfl rfl rfl (ok_H_passHour hb hs1) ?_
      refine mEnds.stp 1 (pc' := 14) (l' := [some (.ref b), some (.int x1), some (.int x2), some (.int x3), some (.int x4)]) (st' := [.ref b]) (fun _ => rfl) ?_
      refine t_gr (rfl : mfetch 27 14 = some (14, .getfield 9, 3, 1, 5, 0)) hb.1 rfl ?_
      refine mEnds.stp 1 (pc' := 18) (l' := [some (.ref b), some (.int x1), some (.int x2), some (.int x3), some (.int x4)]) (st' := [.int x1, .ref (b + 1)]) (fun _ => rfl) ?_
      obtain ⟨j1, hj1, hf⟩ := ob hf
      refine t_ia (rfl : mfetch 27 18 = some (18, .iaload, 1, 0, 0, 0)) hb.2.1 (isH_le hb 1) hj1 ?_
      refine mEnds.stp 1 (pc' := 20) (l' := [some (.ref b), some (.int x1), some (.int x2), some (.int x3), some (.int x4)]) (st' := [.int x3, .int (s1 (b + 1) j1)]) (fun _ => rfl) ?_
      by_cases hc2 : s1 (b + 1) j1 < x3
      · rw [if_pos hc2] at hf
        refine t_cF (rfl : mfetch 27 20 = some (20, .if_icmp .ge 5, 3, 0, 0, 0)) (k_ge' hc2) ?_
        refine mEnds.stp 1 (pc' := 24) (l' := [some (.ref b), some (.int x1), some (.int x2), some (.int x3), some (.int x4)]) (st' := [.int (nI 0)]) (fun _ => rfl) ?_
        exact mEnds.rti (Option.some.inj hf) (fun _ => rfl)
      · rw [if_neg hc2] at hf
        refine t_cT (t := 25) (rfl : mfetch 27 20 = some (20, .if_icmp .ge 5, 3, 0, 0, 0)) rfl (k_ge hc2) ?_
        refine mEnds.stp 2 (pc' := 3) (l' := [some (.ref b), some (.int x1), some (.int x2), some (.int x3), some (.int (x4 + (nI 1)))]) (st' := []) (fun _ => rfl) ?_
        refine mEnds.cut (l := [some (.ref b), some (.int x1), some (.int x2), some (.int x3), some (.int (x4 + (nI 1)))]) ⟨rfl, ⟨rfl, ⟨rfl, ⟨rfl, ⟨rfl, trivial⟩⟩⟩⟩⟩ ?_
        exact ok_H_staysWarm_3 hb fu (x4 + (nI 1)) s1 _ hf
    · rw [if_neg hc1] at hf
      refine t_cT (t := 31) (rfl : mfetch 27 6 = some (6, .if_icmp .ge 25, 3, 0, 0, 0)) rfl (k_ge hc1) ?_
      refine mEnds.stp 1 (pc' := 32) (l' := [some (.ref b), some (.int x1), some (.int x2), some (.int x3), some (.int x4)]) (st' := [.int (nI 1)]) (fun _ => rfl) ?_
      exact mEnds.rti (Option.some.inj hf) (fun _ => rfl)
def H_staysWarm (b : Nat) (x1 : Int32) (x2 : Int32) (x3 : Int32) (s : sg) : Option (Int32 × sg) :=
  H_staysWarm_3 b x1 x2 x3 FU (nI 0) s
set_option maxRecDepth 100000 in
theorem ok_H_staysWarm {b : Nat} {x1 : Int32} {x2 : Int32} {x3 : Int32} (hb : isH b) {s : sg} {rv : (Int32 × sg)} (hf : H_staysWarm b x1 x2 x3 s = some rv) : mEnds [] 4 27 (0, [some (.ref b), some (.int x1), some (.int x2), some (.int x3), none], [], hp shC s, 0, 0) (some (.int rv.1), hp shC rv.2, 0, 0) := by
  unfold H_staysWarm at hf
  refine mEnds.stp 2 (pc' := 3) (l' := [some (.ref b), some (.int x1), some (.int x2), some (.int x3), some (.int (nI 0))]) (st' := []) (fun _ => rfl) ?_
  refine mEnds.cut (l := [some (.ref b), some (.int x1), some (.int x2), some (.int x3), some (.int (nI 0))]) ⟨rfl, ⟨rfl, ⟨rfl, ⟨rfl, ⟨rfl, trivial⟩⟩⟩⟩⟩ ?_
  exact ok_H_staysWarm_3 hb FU (nI 0) s _ hf
def H_burntAllWarm_8 (b : Nat) (x1 : Int32) (x2 : Int32) (x3 : Int32) : Nat → Int32 → sg → Option (Int32 × sg)
  | 0, _, _ => none
  | fu + 1, x4, s =>
  if x4 < x1 then
    (H_passHour b s).bind fun s1 =>
    (H_coldestNow b s1).bind fun v2 =>
    if v2 < x2 then
      some ((-4), s1)
    else
      H_burntAllWarm_8 b x1 x2 x3 fu (x4 + (nI 1)) s1
  else
    some ((s b 3) - x3, s)
set_option maxRecDepth 100000 in
theorem ok_H_burntAllWarm_8 {b : Nat} {x1 : Int32} {x2 : Int32} {x3 : Int32} (hb : isH b) : ∀ (fu : Nat) (x4 : Int32) (s : sg) (rv : (Int32 × sg)), H_burntAllWarm_8 b x1 x2 x3 fu x4 s = some rv → mEnds [] 4 28 (8, [some (.ref b), some (.int x1), some (.int x2), some (.int x3), some (.int x4)], [], hp shC s, 0, 0) (some (.int rv.1), hp shC rv.2, 0, 0)
  | 0, _, _, _, hf => by cases hf
  | fu + 1, x4, s, rv, hf => by
    rw [H_burntAllWarm_8] at hf
    refine mEnds.stp 2 (pc' := 11) (l' := [some (.ref b), some (.int x1), some (.int x2), some (.int x3), some (.int x4)]) (st' := [.int x1, .int x4]) (fun _ => rfl) ?_
    by_cases hc1 : x4 < x1
    · rw [if_pos hc1] at hf
      refine t_cF (rfl : mfetch 28 11 = some (11, .if_icmp .ge 24, 3, 0, 0, 0)) (k_ge' hc1) ?_
      refine mEnds.stp 1 (pc' := 15) (l' := [some (.ref b), some (.int x1), some (.int x2), some (.int x3), some (.int x4)]) (st' := [.ref b]) (fun _ => rfl) ?_
      obtain ⟨s1, hs1, hf⟩ := ob hf
      refine t_cv (as := []) (st := []) (rfl : mfetch 28 15 = some (15, .invokevirtual 88, 3, 23, 0, 0)) hb.1 rfl rfl rfl rfl (ok_H_passHour hb hs1) ?_
      refine mEnds.stp 1 (pc' := 19) (l' := [some (.ref b), some (.int x1), some (.int x2), some (.int x3), some (.int x4)]) (st' := [.ref b]) (fun _ => rfl) ?_
      obtain ⟨v2, hv2, hf⟩ := ob hf
      refine t_cv (as := []) (st := []) (rfl : mfetch 28 19 = some (19, .invokevirtual 129, 3, 16, 0, 0)) hb.1 rfl rfl rfl rfl ((ok_H_coldestNow hb hv2).deep 3) ?_
      refine mEnds.stp 1 (pc' := 23) (l' := [some (.ref b), some (.int x1), some (.int x2), some (.int x3), some (.int x4)]) (st' := [.int x2, .int v2]) (fun _ => rfl) ?_
      by_cases hc2 : v2 < x2
      · rw [if_pos hc2] at hf
        refine t_cF (rfl : mfetch 28 23 = some (23, .if_icmp .ge 6, 3, 0, 0, 0)) (k_ge' hc2) ?_
        refine mEnds.stp 1 (pc' := 28) (l' := [some (.ref b), some (.int x1), some (.int x2), some (.int x3), some (.int x4)]) (st' := [.int (-4)]) (fun _ => rfl) ?_
        exact mEnds.rti (Option.some.inj hf) (fun _ => rfl)
      · rw [if_neg hc2] at hf
        refine t_cT (t := 29) (rfl : mfetch 28 23 = some (23, .if_icmp .ge 6, 3, 0, 0, 0)) rfl (k_ge hc2) ?_
        refine mEnds.stp 2 (pc' := 8) (l' := [some (.ref b), some (.int x1), some (.int x2), some (.int x3), some (.int (x4 + (nI 1)))]) (st' := []) (fun _ => rfl) ?_
        refine mEnds.cut (l := [some (.ref b), some (.int x1), some (.int x2), some (.int x3), some (.int (x4 + (nI 1)))]) ⟨rfl, ⟨rfl, ⟨rfl, ⟨rfl, ⟨rfl, trivial⟩⟩⟩⟩⟩ ?_
        exact ok_H_burntAllWarm_8 hb fu (x4 + (nI 1)) s1 _ hf
    · rw [if_neg hc1] at hf
      refine t_cT (t := 35) (rfl : mfetch 28 11 = some (11, .if_icmp .ge 24, 3, 0, 0, 0)) rfl (k_ge hc1) ?_
      refine mEnds.stp 1 (pc' := 36) (l' := [some (.ref b), some (.int x1), some (.int x2), some (.int x3), some (.int x4)]) (st' := [.ref b]) (fun _ => rfl) ?_
      refine t_gi (rfl : mfetch 28 36 = some (36, .getfield 46, 3, 1, 3, 0)) hb.1 rfl ?_
      refine mEnds.stp 2 (pc' := 41) (l' := [some (.ref b), some (.int x1), some (.int x2), some (.int x3), some (.int x4)]) (st' := [.int ((s b 3) - x3)]) (fun _ => rfl) ?_
      exact mEnds.rti (Option.some.inj hf) (fun _ => rfl)
def H_burntAllWarm (b : Nat) (x1 : Int32) (x2 : Int32) (s : sg) : Option (Int32 × sg) :=
  H_burntAllWarm_8 b x1 x2 (s b 3) FU (nI 0) s
set_option maxRecDepth 100000 in
theorem ok_H_burntAllWarm {b : Nat} {x1 : Int32} {x2 : Int32} (hb : isH b) {s : sg} {rv : (Int32 × sg)} (hf : H_burntAllWarm b x1 x2 s = some rv) : mEnds [] 4 28 (0, [some (.ref b), some (.int x1), some (.int x2), none, none], [], hp shC s, 0, 0) (some (.int rv.1), hp shC rv.2, 0, 0) := by
  unfold H_burntAllWarm at hf
  refine mEnds.stp 1 (pc' := 1) (l' := [some (.ref b), some (.int x1), some (.int x2), none, none]) (st' := [.ref b]) (fun _ => rfl) ?_
  refine t_gi (rfl : mfetch 28 1 = some (1, .getfield 46, 3, 1, 3, 0)) hb.1 rfl ?_
  refine mEnds.stp 3 (pc' := 8) (l' := [some (.ref b), some (.int x1), some (.int x2), some (.int (s b 3)), some (.int (nI 0))]) (st' := []) (fun _ => rfl) ?_
  refine mEnds.cut (l := [some (.ref b), some (.int x1), some (.int x2), some (.int (s b 3)), some (.int (nI 0))]) ⟨rfl, ⟨rfl, ⟨rfl, ⟨rfl, ⟨rfl, trivial⟩⟩⟩⟩⟩ ?_
  exact ok_H_burntAllWarm_8 hb FU (nI 0) s _ hf
def S_isThere (b : Nat) (s : sg) : Option Int32 :=
  if s b 0 = (-1) then
    some (nI 0)
  else
    some (nI 1)
set_option maxRecDepth 100000 in
theorem ok_S_isThere {b : Nat} (hb : isS b) {s : sg} {rv : Int32} (hf : S_isThere b s = some rv) : mEnds [] 0 30 (0, [some (.ref b)], [], hp shC s, 0, 0) (some (.int rv), hp shC s, 0, 0) := by
  unfold S_isThere at hf
  refine mEnds.stp 1 (pc' := 1) (l' := [some (.ref b)]) (st' := [.ref b]) (fun _ => rfl) ?_
  refine t_gi (rfl : mfetch 30 1 = some (1, .getfield 11, 3, 2, 0, 0)) hb.1 rfl ?_
  refine mEnds.stp 1 (pc' := 5) (l' := [some (.ref b)]) (st' := [.int (-1), .int (s b 0)]) (fun _ => rfl) ?_
  by_cases hc1 : s b 0 = (-1)
  · rw [if_pos hc1] at hf
    refine t_cT (t := 12) (rfl : mfetch 30 5 = some (5, .if_icmp .eq 7, 3, 0, 0, 0)) rfl (k_eq hc1) ?_
    refine mEnds.stp 1 (pc' := 13) (l' := [some (.ref b)]) (st' := [.int (nI 0)]) (fun _ => rfl) ?_
    cases hf; exact mEnds.rt (fun _ => rfl)
  · rw [if_neg hc1] at hf
    refine t_cF (rfl : mfetch 30 5 = some (5, .if_icmp .eq 7, 3, 0, 0, 0)) (k_eq' hc1) ?_
    refine mEnds.stp 2 (pc' := 13) (l' := [some (.ref b)]) (st' := [.int (nI 1)]) (fun _ => rfl) ?_
    cases hf; exact mEnds.rt (fun _ => rfl)
def S_renew_12 (b : Nat) (x2 : Int32) : Nat → Int32 → sg → Option sg
  | 0, _, _ => none
  | fu + 1, x3, s =>
  if x3 < x2 then
    if x3 < nI 40 then
      (midx x3 40).bind fun j1 =>
      (some (up s (b + 1) j1 (nI 0))).bind fun s1 =>
      S_renew_12 b x2 fu (x3 + (nI 1)) s1
    else
      some s
  else
    some s
set_option maxRecDepth 100000 in
theorem ok_S_renew_12 {b : Nat} {x2 : Int32} (hb : isS b) : ∀ (fu : Nat) (x3 : Int32) (s : sg) (rv : sg), S_renew_12 b x2 fu x3 s = some rv → mEnds [] 0 31 (12, [some (.ref b), none, some (.int x2), some (.int x3)], [], hp shC s, 0, 0) (none, hp shC rv, 0, 0)
  | 0, _, _, _, hf => by cases hf
  | fu + 1, x3, s, rv, hf => by
    rw [S_renew_12] at hf
    refine mEnds.stp 2 (pc' := 14) (l' := [some (.ref b), none, some (.int x2), some (.int x3)]) (st' := [.int x2, .int x3]) (fun _ => rfl) ?_
    by_cases hc1 : x3 < x2
    · rw [if_pos hc1] at hf
      refine t_cF (rfl : mfetch 31 14 = some (14, .if_icmp .ge 22, 3, 0, 0, 0)) (k_ge' hc1) ?_
      refine mEnds.stp 2 (pc' := 20) (l' := [some (.ref b), none, some (.int x2), some (.int x3)]) (st' := [.int (nI 40), .int x3]) (fun _ => rfl) ?_
      by_cases hc2 : x3 < nI 40
      · rw [if_pos hc2] at hf
        refine t_cF (rfl : mfetch 31 20 = some (20, .if_icmp .ge 16, 3, 0, 0, 0)) (k_ge' hc2) ?_
        refine mEnds.stp 1 (pc' := 24) (l' := [some (.ref b), none, some (.int x2), some (.int x3)]) (st' := [.ref b]) (fun _ => rfl) ?_
        refine t_gr (rfl : mfetch 31 24 = some (24, .getfield 15, 3, 2, 2, 0)) hb.1 rfl ?_
        refine mEnds.stp 2 (pc' := 29) (l' := [some (.ref b), none, some (.int x2), some (.int x3)]) (st' := [.int (nI 0), .int x3, .ref (b + 1)]) (fun _ => rfl) ?_
        obtain ⟨j1, hj1, hf⟩ := ob hf
        obtain ⟨s1, hs1, hf⟩ := ob hf
        refine t_is (rfl : mfetch 31 29 = some (29, .iastore, 1, 0, 0, 0)) hb.2 (isS_le hb 1) hj1 hs1 ?_
        refine mEnds.stp 2 (pc' := 12) (l' := [some (.ref b), none, some (.int x2), some (.int (x3 + (nI 1)))]) (st' := []) (fun _ => rfl) ?_
        refine mEnds.cut (l := [some (.ref b), none, some (.int x2), some (.int (x3 + (nI 1)))]) ⟨rfl, ⟨rfl, ⟨rfl, trivial⟩⟩⟩ ?_
        exact ok_S_renew_12 hb fu (x3 + (nI 1)) s1 _ hf
      · rw [if_neg hc2] at hf
        refine t_cT (t := 36) (rfl : mfetch 31 20 = some (20, .if_icmp .ge 16, 3, 0, 0, 0)) rfl (k_ge hc2) ?_
        cases hf; exact mEnds.rt (fun _ => rfl)
    · rw [if_neg hc1] at hf
      refine t_cT (t := 36) (rfl : mfetch 31 14 = some (14, .if_icmp .ge 22, 3, 0, 0, 0)) rfl (k_ge hc1) ?_
      cases hf; exact mEnds.rt (fun _ => rfl)
def S_renew (b : Nat) (x1 : Int32) (x2 : Int32) (s : sg) : Option sg :=
  (some (up s b 0 x1)).bind fun s1 =>
  (some (up s1 b 1 x2)).bind fun s2 =>
  S_renew_12 b x2 FU (nI 0) s2
set_option maxRecDepth 100000 in
theorem ok_S_renew {b : Nat} {x1 : Int32} {x2 : Int32} (hb : isS b) {s : sg} {rv : sg} (hf : S_renew b x1 x2 s = some rv) : mEnds [] 0 31 (0, [some (.ref b), some (.int x1), some (.int x2), none], [], hp shC s, 0, 0) (none, hp shC rv, 0, 0) := by
  unfold S_renew at hf
  refine mEnds.stp 2 (pc' := 2) (l' := [some (.ref b), some (.int x1), some (.int x2), none]) (st' := [.int x1, .ref b]) (fun _ => rfl) ?_
  obtain ⟨s1, hs1, hf⟩ := ob hf
  refine t_pi (rfl : mfetch 31 2 = some (2, .putfield 11, 3, 2, 0, 0)) hb.1 rfl (isS_le hb 0) rfl hs1 ?_
  refine mEnds.stp 2 (pc' := 7) (l' := [some (.ref b), some (.int x1), some (.int x2), none]) (st' := [.int x2, .ref b]) (fun _ => rfl) ?_
  obtain ⟨s2, hs2, hf⟩ := ob hf
  refine t_pi (rfl : mfetch 31 7 = some (7, .putfield 19, 3, 2, 1, 0)) hb.1 rfl (isS_le hb 0) rfl hs2 ?_
  refine mEnds.stp 2 (pc' := 12) (l' := [some (.ref b), some (.int x1), some (.int x2), some (.int (nI 0))]) (st' := []) (fun _ => rfl) ?_
  refine mEnds.cut (l := [some (.ref b), none, some (.int x2), some (.int (nI 0))]) ⟨rfl, ⟨rfl, ⟨rfl, trivial⟩⟩⟩ ?_
  exact ok_S_renew_12 hb FU (nI 0) s2 _ hf
def S_put_31 (b : Nat) (y0 : Int32) (y1 : Int32) (s : sg) : Option sg :=
  (midx y1 40).bind fun j1 =>
  (some (up s (b + 1) j1 y0)).bind fun s1 =>
  some s1
set_option maxRecDepth 100000 in
theorem ok_S_put_31 {b : Nat} {y0 : Int32} {y1 : Int32} (hb : isS b) {s : sg} {rv : sg} (hf : S_put_31 b y0 y1 s = some rv) : mEnds [] 0 32 (31, [none, none, none], [.int y0, .int y1, .ref (b + 1)], hp shC s, 0, 0) (none, hp shC rv, 0, 0) := by
  unfold S_put_31 at hf
  obtain ⟨j1, hj1, hf⟩ := ob hf
  obtain ⟨s1, hs1, hf⟩ := ob hf
  refine t_is (rfl : mfetch 32 31 = some (31, .iastore, 1, 0, 0, 0)) hb.2 (isS_le hb 1) hj1 hs1 ?_
  cases hf; exact mEnds.rt (fun _ => rfl)
def S_put (b : Nat) (x1 : Int32) (x2 : Int32) (s : sg) : Option sg :=
  if s b 0 = 0 then
    S_put_31 b x2.toInt8.toInt32 x1 s
  else
    if s b 0 = nI 1 then
      S_put_31 b x2.toInt16.toInt32 x1 s
    else
      S_put_31 b x2 x1 s
set_option maxRecDepth 100000 in
theorem ok_S_put {b : Nat} {x1 : Int32} {x2 : Int32} (hb : isS b) {s : sg} {rv : sg} (hf : S_put b x1 x2 s = some rv) : mEnds [] 0 32 (0, [some (.ref b), some (.int x1), some (.int x2)], [], hp shC s, 0, 0) (none, hp shC rv, 0, 0) := by
  unfold S_put at hf
  refine mEnds.stp 1 (pc' := 1) (l' := [some (.ref b), some (.int x1), some (.int x2)]) (st' := [.ref b]) (fun _ => rfl) ?_
  refine t_gr (rfl : mfetch 32 1 = some (1, .getfield 15, 3, 2, 2, 0)) hb.1 rfl ?_
  refine mEnds.stp 2 (pc' := 6) (l' := [some (.ref b), some (.int x1), some (.int x2)]) (st' := [.ref b, .int x1, .ref (b + 1)]) (fun _ => rfl) ?_
  refine t_gi (rfl : mfetch 32 6 = some (6, .getfield 11, 3, 2, 0, 0)) hb.1 rfl ?_
  by_cases hc1 : s b 0 = 0
  · rw [if_pos hc1] at hf
    refine t_jF (rfl : mfetch 32 9 = some (9, .ifCond .ne 8, 3, 0, 0, 0)) (k_ne' hc1) ?_
    refine mEnds.stp 3 (pc' := 31) (l' := [some (.ref b), some (.int x1), some (.int x2)]) (st' := [.int x2.toInt8.toInt32, .int x1, .ref (b + 1)]) (fun _ => rfl) ?_
    refine mEnds.cut (l := [none, none, none]) trivial ?_
    exact ok_S_put_31 hb hf
  · rw [if_neg hc1] at hf
    refine t_jT (t := 17) (rfl : mfetch 32 9 = some (9, .ifCond .ne 8, 3, 0, 0, 0)) rfl (k_ne hc1) ?_
    refine mEnds.stp 1 (pc' := 18) (l' := [some (.ref b), some (.int x1), some (.int x2)]) (st' := [.ref b, .int x1, .ref (b + 1)]) (fun _ => rfl) ?_
    refine t_gi (rfl : mfetch 32 18 = some (18, .getfield 11, 3, 2, 0, 0)) hb.1 rfl ?_
    refine mEnds.stp 1 (pc' := 22) (l' := [some (.ref b), some (.int x1), some (.int x2)]) (st' := [.int (nI 1), .int (s b 0), .int x1, .ref (b + 1)]) (fun _ => rfl) ?_
    by_cases hc2 : s b 0 = nI 1
    · rw [if_pos hc2] at hf
      refine t_cF (rfl : mfetch 32 22 = some (22, .if_icmp .ne 8, 3, 0, 0, 0)) (k_ne' hc2) ?_
      refine mEnds.stp 3 (pc' := 31) (l' := [some (.ref b), some (.int x1), some (.int x2)]) (st' := [.int x2.toInt16.toInt32, .int x1, .ref (b + 1)]) (fun _ => rfl) ?_
      refine mEnds.cut (l := [none, none, none]) trivial ?_
      exact ok_S_put_31 hb hf
    · rw [if_neg hc2] at hf
      refine t_cT (t := 30) (rfl : mfetch 32 22 = some (22, .if_icmp .ne 8, 3, 0, 0, 0)) rfl (k_ne hc2) ?_
      refine mEnds.stp 1 (pc' := 31) (l' := [some (.ref b), some (.int x1), some (.int x2)]) (st' := [.int x2, .int x1, .ref (b + 1)]) (fun _ => rfl) ?_
      refine mEnds.cut (l := [none, none, none]) trivial ?_
      exact ok_S_put_31 hb hf
def S_faultAt (b : Nat) (x1 : Int32) (x2 : Int32) (s : sg) : Option Int32 :=
  (S_isThere b s).bind fun v1 =>
  if v1 = 0 then
    some (nI 1)
  else
    if x1 = s b 0 then
      if x2 < 0 then
        some (nI 2)
      else
        if x2 < s b 1 then
          some (nI 0)
        else
          some (nI 2)
    else
      some (nI 3)
set_option maxRecDepth 100000 in
theorem ok_S_faultAt {b : Nat} {x1 : Int32} {x2 : Int32} (hb : isS b) {s : sg} {rv : Int32} (hf : S_faultAt b x1 x2 s = some rv) : mEnds [] 1 33 (0, [some (.ref b), some (.int x1), some (.int x2)], [], hp shC s, 0, 0) (some (.int rv), hp shC s, 0, 0) := by
  unfold S_faultAt at hf
  refine mEnds.stp 1 (pc' := 1) (l' := [some (.ref b), some (.int x1), some (.int x2)]) (st' := [.ref b]) (fun _ => rfl) ?_
  obtain ⟨v1, hv1, hf⟩ := ob hf
  refine t_cv (as := []) (st := []) (rfl : mfetch 33 1 = some (1, .invokevirtual 22, 3, 30, 0, 0)) hb.1 rfl rfl rfl rfl (ok_S_isThere hb hv1) ?_
  by_cases hc1 : v1 = 0
  · rw [if_pos hc1] at hf
    refine t_jF (rfl : mfetch 33 4 = some (4, .ifCond .ne 5, 3, 0, 0, 0)) (k_ne' hc1) ?_
    refine mEnds.stp 1 (pc' := 8) (l' := [some (.ref b), some (.int x1), some (.int x2)]) (st' := [.int (nI 1)]) (fun _ => rfl) ?_
    cases hf; exact mEnds.rt (fun _ => rfl)
  · rw [if_neg hc1] at hf
    refine t_jT (t := 9) (rfl : mfetch 33 4 = some (4, .ifCond .ne 5, 3, 0, 0, 0)) rfl (k_ne hc1) ?_
    refine mEnds.stp 2 (pc' := 11) (l' := [some (.ref b), some (.int x1), some (.int x2)]) (st' := [.ref b, .int x1]) (fun _ => rfl) ?_
    refine t_gi (rfl : mfetch 33 11 = some (11, .getfield 11, 3, 2, 0, 0)) hb.1 rfl ?_
    by_cases hc2 : x1 = s b 0
    · rw [if_pos hc2] at hf
      refine t_cT (t := 19) (rfl : mfetch 33 14 = some (14, .if_icmp .eq 5, 3, 0, 0, 0)) rfl (k_eq hc2) ?_
      refine mEnds.stp 1 (pc' := 20) (l' := [some (.ref b), some (.int x1), some (.int x2)]) (st' := [.int x2]) (fun _ => rfl) ?_
      by_cases hc3 : x2 < 0
      · rw [if_pos hc3] at hf
        refine t_jT (t := 35) (rfl : mfetch 33 20 = some (20, .ifCond .lt 15, 3, 0, 0, 0)) rfl (k_lt hc3) ?_
        refine mEnds.stp 1 (pc' := 36) (l' := [some (.ref b), some (.int x1), some (.int x2)]) (st' := [.int (nI 2)]) (fun _ => rfl) ?_
        cases hf; exact mEnds.rt (fun _ => rfl)
      · rw [if_neg hc3] at hf
        refine t_jF (rfl : mfetch 33 20 = some (20, .ifCond .lt 15, 3, 0, 0, 0)) (k_lt' hc3) ?_
        refine mEnds.stp 2 (pc' := 25) (l' := [some (.ref b), some (.int x1), some (.int x2)]) (st' := [.ref b, .int x2]) (fun _ => rfl) ?_
        refine t_gi (rfl : mfetch 33 25 = some (25, .getfield 19, 3, 2, 1, 0)) hb.1 rfl ?_
        by_cases hc4 : x2 < s b 1
        · rw [if_pos hc4] at hf
          refine t_cF (rfl : mfetch 33 28 = some (28, .if_icmp .ge 7, 3, 0, 0, 0)) (k_ge' hc4) ?_
          refine mEnds.stp 2 (pc' := 36) (l' := [some (.ref b), some (.int x1), some (.int x2)]) (st' := [.int (nI 0)]) (fun _ => rfl) ?_
          cases hf; exact mEnds.rt (fun _ => rfl)
        · rw [if_neg hc4] at hf
          refine t_cT (t := 35) (rfl : mfetch 33 28 = some (28, .if_icmp .ge 7, 3, 0, 0, 0)) rfl (k_ge hc4) ?_
          refine mEnds.stp 1 (pc' := 36) (l' := [some (.ref b), some (.int x1), some (.int x2)]) (st' := [.int (nI 2)]) (fun _ => rfl) ?_
          cases hf; exact mEnds.rt (fun _ => rfl)
    · rw [if_neg hc2] at hf
      refine t_cF (rfl : mfetch 33 14 = some (14, .if_icmp .eq 5, 3, 0, 0, 0)) (k_eq' hc2) ?_
      refine mEnds.stp 1 (pc' := 18) (l' := [some (.ref b), some (.int x1), some (.int x2)]) (st' := [.int (nI 3)]) (fun _ => rfl) ?_
      cases hf; exact mEnds.rt (fun _ => rfl)
def S_faultAtPair (b : Nat) (x1 : Int32) (x2 : Int32) (s : sg) : Option Int32 :=
  (S_faultAt b x1 x2 s).bind fun v1 =>
  if v1 = 0 then
    (S_faultAt b x1 (x2 + (nI 1)) s).bind fun v2 =>
    some v2
  else
    some v1
set_option maxRecDepth 100000 in
theorem ok_S_faultAtPair {b : Nat} {x1 : Int32} {x2 : Int32} (hb : isS b) {s : sg} {rv : Int32} (hf : S_faultAtPair b x1 x2 s = some rv) : mEnds [] 2 34 (0, [some (.ref b), some (.int x1), some (.int x2), none], [], hp shC s, 0, 0) (some (.int rv), hp shC s, 0, 0) := by
  unfold S_faultAtPair at hf
  refine mEnds.stp 3 (pc' := 3) (l' := [some (.ref b), some (.int x1), some (.int x2), none]) (st' := [.int x2, .int x1, .ref b]) (fun _ => rfl) ?_
  obtain ⟨v1, hv1, hf⟩ := ob hf
  refine t_cv (as := [.int x1, .int x2]) (st := []) (rfl : mfetch 34 3 = some (3, .invokevirtual 26, 3, 33, 0, 0)) hb.1 rfl rfl rfl rfl (ok_S_faultAt hb hv1) ?_
  refine mEnds.stp 2 (pc' := 8) (l' := [some (.ref b), some (.int x1), some (.int x2), some (.int v1)]) (st' := [.int v1]) (fun _ => rfl) ?_
  by_cases hc1 : v1 = 0
  · rw [if_pos hc1] at hf
    refine t_jT (t := 15) (rfl : mfetch 34 8 = some (8, .ifCond .eq 7, 3, 0, 0, 0)) rfl (k_eq hc1) ?_
    refine mEnds.stp 5 (pc' := 20) (l' := [some (.ref b), some (.int x1), some (.int x2), some (.int v1)]) (st' := [.int (x2 + (nI 1)), .int x1, .ref b]) (fun _ => rfl) ?_
    obtain ⟨v2, hv2, hf⟩ := ob hf
    refine t_cv (as := [.int x1, .int (x2 + (nI 1))]) (st := []) (rfl : mfetch 34 20 = some (20, .invokevirtual 26, 3, 33, 0, 0)) hb.1 rfl rfl rfl rfl (ok_S_faultAt hb hv2) ?_
    cases hf; exact mEnds.rt (fun _ => rfl)
  · rw [if_neg hc1] at hf
    refine t_jF (rfl : mfetch 34 8 = some (8, .ifCond .eq 7, 3, 0, 0, 0)) (k_eq' hc1) ?_
    refine mEnds.stp 2 (pc' := 23) (l' := [some (.ref b), some (.int x1), some (.int x2), some (.int v1)]) (st' := [.int v1]) (fun _ => rfl) ?_
    cases hf; exact mEnds.rt (fun _ => rfl)
def T_put (x1 : Int32) (s : sg) : Option (Int32 × sg) :=
  if s 27 1 < nI 160 then
    (midx (s 27 1) 160).bind fun j1 =>
    (some (up s 28 j1 (vp_nar .byte x1.toInt8.toInt32))).bind fun s1 =>
    (some (up s1 27 1 ((s1 27 1) + (nI 1)))).bind fun s2 =>
    some (nI 1, s2)
  else
    some (nI 0, s)
set_option maxRecDepth 100000 in
theorem ok_T_put {x1 : Int32} {s : sg} {rv : (Int32 × sg)} (hf : T_put x1 s = some rv) : mEnds [] 0 36 (0, [some (.ref 27), some (.int x1)], [], hp shC s, 0, 0) (some (.int rv.1), hp shC rv.2, 0, 0) := by
  unfold T_put at hf
  refine mEnds.stp 1 (pc' := 1) (l' := [some (.ref 27), some (.int x1)]) (st' := [.ref 27]) (fun _ => rfl) ?_
  refine t_gi (rfl : mfetch 36 1 = some (1, .getfield 22, 3, 3, 1, 0)) rfl rfl ?_
  refine mEnds.stp 1 (pc' := 7) (l' := [some (.ref 27), some (.int x1)]) (st' := [.int (nI 160), .int (s 27 1)]) (fun _ => rfl) ?_
  by_cases hc1 : s 27 1 < nI 160
  · rw [if_pos hc1] at hf
    refine t_cT (t := 12) (rfl : mfetch 36 7 = some (7, .if_icmp .lt 5, 3, 0, 0, 0)) rfl (k_lt hc1) ?_
    refine mEnds.stp 1 (pc' := 13) (l' := [some (.ref 27), some (.int x1)]) (st' := [.ref 27]) (fun _ => rfl) ?_
    refine t_gr (rfl : mfetch 36 13 = some (13, .getfield 11, 3, 3, 0, 0)) rfl rfl ?_
    refine mEnds.stp 1 (pc' := 17) (l' := [some (.ref 27), some (.int x1)]) (st' := [.ref 27, .ref 28]) (fun _ => rfl) ?_
    refine t_gi (rfl : mfetch 36 17 = some (17, .getfield 22, 3, 3, 1, 0)) rfl rfl ?_
    refine mEnds.stp 2 (pc' := 22) (l' := [some (.ref 27), some (.int x1)]) (st' := [.int x1.toInt8.toInt32, .int (s 27 1), .ref 28]) (fun _ => rfl) ?_
    obtain ⟨j1, hj1, hf⟩ := ob hf
    obtain ⟨s1, hs1, hf⟩ := ob hf
    refine t_bs (rfl : mfetch 36 22 = some (22, .bastore, 1, 0, 0, 0)) rfl rfl hj1 hs1 ?_
    refine mEnds.stp 2 (pc' := 25) (l' := [some (.ref 27), some (.int x1)]) (st' := [.ref 27, .ref 27]) (fun _ => rfl) ?_
    refine t_gi (rfl : mfetch 36 25 = some (25, .getfield 22, 3, 3, 1, 0)) rfl rfl ?_
    refine mEnds.stp 2 (pc' := 30) (l' := [some (.ref 27), some (.int x1)]) (st' := [.int ((s1 27 1) + (nI 1)), .ref 27]) (fun _ => rfl) ?_
    obtain ⟨s2, hs2, hf⟩ := ob hf
    refine t_pi (rfl : mfetch 36 30 = some (30, .putfield 22, 3, 3, 1, 0)) rfl rfl rfl rfl hs2 ?_
    refine mEnds.stp 1 (pc' := 34) (l' := [some (.ref 27), some (.int x1)]) (st' := [.int (nI 1)]) (fun _ => rfl) ?_
    exact mEnds.rti (Option.some.inj hf) (fun _ => rfl)
  · rw [if_neg hc1] at hf
    refine t_cF (rfl : mfetch 36 7 = some (7, .if_icmp .lt 5, 3, 0, 0, 0)) (k_lt' hc1) ?_
    refine mEnds.stp 1 (pc' := 11) (l' := [some (.ref 27), some (.int x1)]) (st' := [.int (nI 0)]) (fun _ => rfl) ?_
    exact mEnds.rti (Option.some.inj hf) (fun _ => rfl)
end Q30b
section Q30c
def T_fail (x1 : Int32) (x2 : Int32) (s : sg) : Option sg :=
  if s 27 3 = 0 then
    (some (up s 27 3 x1)).bind fun s1 =>
    (some (up s1 27 4 x2)).bind fun s2 =>
    some s2
  else
    some s
set_option maxRecDepth 100000 in
theorem ok_T_fail {x1 : Int32} {x2 : Int32} {s : sg} {rv : sg} (hf : T_fail x1 x2 s = some rv) : mEnds [] 0 38 (0, [some (.ref 27), some (.int x1), some (.int x2)], [], hp shC s, 0, 0) (none, hp shC rv, 0, 0) := by
  unfold T_fail at hf
  refine mEnds.stp 1 (pc' := 1) (l' := [some (.ref 27), some (.int x1), some (.int x2)]) (st' := [.ref 27]) (fun _ => rfl) ?_
  refine t_gi (rfl : mfetch 38 1 = some (1, .getfield 29, 3, 3, 3, 0)) rfl rfl ?_
  by_cases hc1 : s 27 3 = 0
  · rw [if_pos hc1] at hf
    refine t_jF (rfl : mfetch 38 4 = some (4, .ifCond .ne 13, 3, 0, 0, 0)) (k_ne' hc1) ?_
    refine mEnds.stp 2 (pc' := 9) (l' := [some (.ref 27), some (.int x1), some (.int x2)]) (st' := [.int x1, .ref 27]) (fun _ => rfl) ?_
    obtain ⟨s1, hs1, hf⟩ := ob hf
    refine t_pi (rfl : mfetch 38 9 = some (9, .putfield 29, 3, 3, 3, 0)) rfl rfl rfl rfl hs1 ?_
    refine mEnds.stp 2 (pc' := 14) (l' := [some (.ref 27), some (.int x1), some (.int x2)]) (st' := [.int x2, .ref 27]) (fun _ => rfl) ?_
    obtain ⟨s2, hs2, hf⟩ := ob hf
    refine t_pi (rfl : mfetch 38 14 = some (14, .putfield 32, 3, 3, 4, 0)) rfl rfl rfl rfl hs2 ?_
    cases hf; exact mEnds.rt (fun _ => rfl)
  · rw [if_neg hc1] at hf
    refine t_jT (t := 17) (rfl : mfetch 38 4 = some (4, .ifCond .ne 13, 3, 0, 0, 0)) rfl (k_ne hc1) ?_
    cases hf; exact mEnds.rt (fun _ => rfl)
def T_isNamed_20 (w : Nat) (s : sg) : Nat → Int32 → Option Int32
  | 0, _ => none
  | fu + 1, x2 =>
  if x2 < nI (roS w).length then
    (midx ((s 27 7) + x2) 160).bind fun j1 =>
    (midx x2 (roS w).length).bind fun j2 =>
    if s 28 j1 = (roS w).getD j2 0 then
      T_isNamed_20 w s fu (x2 + (nI 1))
    else
      some (nI 0)
  else
    some (nI 1)
set_option maxRecDepth 100000 in
theorem ok_T_isNamed_20 {w : Nat} {s : sg} (hw3 : Nat.ble 3 w = true) (hw10 : Nat.blt w 10 = true) : ∀ (fu : Nat) (x2 : Int32) (rv : Int32), T_isNamed_20 w s fu x2 = some rv → mEnds [] 0 41 (20, [some (.ref 27), some (.ref w), some (.int x2)], [], hp shC s, 0, 0) (some (.int rv), hp shC s, 0, 0)
  | 0, _, _, hf => by cases hf
  | fu + 1, x2, rv, hf => by
    rw [T_isNamed_20] at hf
    refine mEnds.stp 2 (pc' := 22) (l' := [some (.ref 27), some (.ref w), some (.int x2)]) (st' := [.ref w, .int x2]) (fun _ => rfl) ?_
    refine t_sl (rfl : mfetch 41 22 = some (22, .invokevirtual 102, 3, 997, 8, 0)) hw3 hw10 rfl ?_
    by_cases hc1 : x2 < nI (roS w).length
    · rw [if_pos hc1] at hf
      refine t_cF (rfl : mfetch 41 25 = some (25, .if_icmp .ge 30, 3, 0, 0, 0)) (k_ge' hc1) ?_
      refine mEnds.stp 1 (pc' := 29) (l' := [some (.ref 27), some (.ref w), some (.int x2)]) (st' := [.ref 27]) (fun _ => rfl) ?_
      refine t_gr (rfl : mfetch 41 29 = some (29, .getfield 11, 3, 3, 0, 0)) rfl rfl ?_
      refine mEnds.stp 1 (pc' := 33) (l' := [some (.ref 27), some (.ref w), some (.int x2)]) (st' := [.ref 27, .ref 28]) (fun _ => rfl) ?_
      refine t_gi (rfl : mfetch 41 33 = some (33, .getfield 64, 3, 3, 7, 0)) rfl rfl ?_
      refine mEnds.stp 2 (pc' := 38) (l' := [some (.ref 27), some (.ref w), some (.int x2)]) (st' := [.int ((s 27 7) + x2), .ref 28]) (fun _ => rfl) ?_
      obtain ⟨j1, hj1, hf⟩ := ob hf
      refine t_ba (rfl : mfetch 41 38 = some (38, .baload, 1, 0, 0, 0)) rfl rfl rfl hj1 ?_
      refine mEnds.stp 2 (pc' := 41) (l' := [some (.ref 27), some (.ref w), some (.int x2)]) (st' := [.int x2, .ref w, .int (s 28 j1)]) (fun _ => rfl) ?_
      obtain ⟨j2, hj2, hf⟩ := ob hf
      refine t_sc (rfl : mfetch 41 41 = some (41, .invokevirtual 106, 3, 997, 9, 0)) hw3 hw10 rfl hj2 ?_
      by_cases hc2 : s 28 j1 = (roS w).getD j2 0
      · rw [if_pos hc2] at hf
        refine t_cT (t := 49) (rfl : mfetch 41 44 = some (44, .if_icmp .eq 5, 3, 0, 0, 0)) rfl (k_eq hc2) ?_
        refine mEnds.stp 2 (pc' := 20) (l' := [some (.ref 27), some (.ref w), some (.int (x2 + (nI 1)))]) (st' := []) (fun _ => rfl) ?_
        refine mEnds.cut (l := [some (.ref 27), some (.ref w), some (.int (x2 + (nI 1)))]) ⟨rfl, ⟨rfl, ⟨rfl, trivial⟩⟩⟩ ?_
        exact ok_T_isNamed_20 hw3 hw10 fu (x2 + (nI 1)) _ hf
      · rw [if_neg hc2] at hf
        refine t_cF (rfl : mfetch 41 44 = some (44, .if_icmp .eq 5, 3, 0, 0, 0)) (k_eq' hc2) ?_
        refine mEnds.stp 1 (pc' := 48) (l' := [some (.ref 27), some (.ref w), some (.int x2)]) (st' := [.int (nI 0)]) (fun _ => rfl) ?_
        cases hf; exact mEnds.rt (fun _ => rfl)
    · rw [if_neg hc1] at hf
      refine t_cT (t := 55) (rfl : mfetch 41 25 = some (25, .if_icmp .ge 30, 3, 0, 0, 0)) rfl (k_ge hc1) ?_
      refine mEnds.stp 1 (pc' := 56) (l' := [some (.ref 27), some (.ref w), some (.int x2)]) (st' := [.int (nI 1)]) (fun _ => rfl) ?_
      cases hf; exact mEnds.rt (fun _ => rfl)
def T_isNamed (w : Nat) (s : sg) : Option Int32 :=
  if (s 27 8) - (s 27 7) = nI (roS w).length then
    T_isNamed_20 w s FU (nI 0)
  else
    some (nI 0)
set_option maxRecDepth 100000 in
theorem ok_T_isNamed {w : Nat} (hw3 : Nat.ble 3 w = true) (hw10 : Nat.blt w 10 = true) {s : sg} {rv : Int32} (hf : T_isNamed w s = some rv) : mEnds [] 0 41 (0, [some (.ref 27), some (.ref w), none], [], hp shC s, 0, 0) (some (.int rv), hp shC s, 0, 0) := by
  unfold T_isNamed at hf
  refine mEnds.stp 1 (pc' := 1) (l' := [some (.ref 27), some (.ref w), none]) (st' := [.ref 27]) (fun _ => rfl) ?_
  refine t_gi (rfl : mfetch 41 1 = some (1, .getfield 38, 3, 3, 8, 0)) rfl rfl ?_
  refine mEnds.stp 1 (pc' := 5) (l' := [some (.ref 27), some (.ref w), none]) (st' := [.ref 27, .int (s 27 8)]) (fun _ => rfl) ?_
  refine t_gi (rfl : mfetch 41 5 = some (5, .getfield 64, 3, 3, 7, 0)) rfl rfl ?_
  refine mEnds.stp 2 (pc' := 10) (l' := [some (.ref 27), some (.ref w), none]) (st' := [.ref w, .int ((s 27 8) - (s 27 7))]) (fun _ => rfl) ?_
  refine t_sl (rfl : mfetch 41 10 = some (10, .invokevirtual 102, 3, 997, 8, 0)) hw3 hw10 rfl ?_
  by_cases hc1 : (s 27 8) - (s 27 7) = nI (roS w).length
  · rw [if_pos hc1] at hf
    refine t_cT (t := 18) (rfl : mfetch 41 13 = some (13, .if_icmp .eq 5, 3, 0, 0, 0)) rfl (k_eq hc1) ?_
    refine mEnds.stp 2 (pc' := 20) (l' := [some (.ref 27), some (.ref w), some (.int (nI 0))]) (st' := []) (fun _ => rfl) ?_
    refine mEnds.cut (l := [some (.ref 27), some (.ref w), some (.int (nI 0))]) ⟨rfl, ⟨rfl, ⟨rfl, trivial⟩⟩⟩ ?_
    exact ok_T_isNamed_20 hw3 hw10 FU (nI 0) _ hf
  · rw [if_neg hc1] at hf
    refine t_cF (rfl : mfetch 41 13 = some (13, .if_icmp .eq 5, 3, 0, 0, 0)) (k_eq' hc1) ?_
    refine mEnds.stp 1 (pc' := 17) (l' := [some (.ref 27), some (.ref w), none]) (st' := [.int (nI 0)]) (fun _ => rfl) ?_
    cases hf; exact mEnds.rt (fun _ => rfl)
def T_lineByName (s : sg) : Option Int32 :=
  (T_isNamed 3 s).bind fun v1 =>
  if v1 = 0 then
    (T_isNamed 4 s).bind fun v2 =>
    if v2 = 0 then
      (T_isNamed 5 s).bind fun v3 =>
      if v3 = 0 then
        (T_isNamed 6 s).bind fun v4 =>
        if v4 = 0 then
          (T_isNamed 7 s).bind fun v5 =>
          if v5 = 0 then
            (T_isNamed 8 s).bind fun v6 =>
            if v6 = 0 then
              (T_isNamed 9 s).bind fun v7 =>
              if v7 = 0 then
                some (nI 13)
              else
                some (nI 12)
            else
              some (nI 11)
          else
            some (nI 10)
        else
          some (nI 3)
      else
        some (nI 2)
    else
      some (nI 1)
  else
    some (nI 0)
set_option maxRecDepth 100000 in
theorem ok_T_lineByName {s : sg} {rv : Int32} (hf : T_lineByName s = some rv) : mEnds [] 1 40 (0, [some (.ref 27)], [], hp shC s, 0, 0) (some (.int rv), hp shC s, 0, 0) := by
  unfold T_lineByName at hf
  refine mEnds.stp 2 (pc' := 3) (l' := [some (.ref 27)]) (st' := [.ref 3, .ref 27]) (fun _ => rfl) ?_
  obtain ⟨v1, hv1, hf⟩ := ob hf
  refine t_cv (as := [.ref 3]) (st := []) (rfl : mfetch 40 3 = some (3, .invokevirtual 86, 3, 41, 0, 0)) rfl rfl rfl rfl rfl (ok_T_isNamed rfl rfl hv1) ?_
  by_cases hc1 : v1 = 0
  · rw [if_pos hc1] at hf
    refine t_jT (t := 11) (rfl : mfetch 40 6 = some (6, .ifCond .eq 5, 3, 0, 0, 0)) rfl (k_eq hc1) ?_
    refine mEnds.stp 2 (pc' := 14) (l' := [some (.ref 27)]) (st' := [.ref 4, .ref 27]) (fun _ => rfl) ?_
    obtain ⟨v2, hv2, hf⟩ := ob hf
    refine t_cv (as := [.ref 4]) (st := []) (rfl : mfetch 40 14 = some (14, .invokevirtual 86, 3, 41, 0, 0)) rfl rfl rfl rfl rfl (ok_T_isNamed rfl rfl hv2) ?_
    by_cases hc2 : v2 = 0
    · rw [if_pos hc2] at hf
      refine t_jT (t := 22) (rfl : mfetch 40 17 = some (17, .ifCond .eq 5, 3, 0, 0, 0)) rfl (k_eq hc2) ?_
      refine mEnds.stp 2 (pc' := 25) (l' := [some (.ref 27)]) (st' := [.ref 5, .ref 27]) (fun _ => rfl) ?_
      obtain ⟨v3, hv3, hf⟩ := ob hf
      refine t_cv (as := [.ref 5]) (st := []) (rfl : mfetch 40 25 = some (25, .invokevirtual 86, 3, 41, 0, 0)) rfl rfl rfl rfl rfl (ok_T_isNamed rfl rfl hv3) ?_
      by_cases hc3 : v3 = 0
      · rw [if_pos hc3] at hf
        refine t_jT (t := 33) (rfl : mfetch 40 28 = some (28, .ifCond .eq 5, 3, 0, 0, 0)) rfl (k_eq hc3) ?_
        refine mEnds.stp 2 (pc' := 36) (l' := [some (.ref 27)]) (st' := [.ref 6, .ref 27]) (fun _ => rfl) ?_
        obtain ⟨v4, hv4, hf⟩ := ob hf
        refine t_cv (as := [.ref 6]) (st := []) (rfl : mfetch 40 36 = some (36, .invokevirtual 86, 3, 41, 0, 0)) rfl rfl rfl rfl rfl (ok_T_isNamed rfl rfl hv4) ?_
        by_cases hc4 : v4 = 0
        · rw [if_pos hc4] at hf
          refine t_jT (t := 44) (rfl : mfetch 40 39 = some (39, .ifCond .eq 5, 3, 0, 0, 0)) rfl (k_eq hc4) ?_
          refine mEnds.stp 2 (pc' := 47) (l' := [some (.ref 27)]) (st' := [.ref 7, .ref 27]) (fun _ => rfl) ?_
          obtain ⟨v5, hv5, hf⟩ := ob hf
          refine t_cv (as := [.ref 7]) (st := []) (rfl : mfetch 40 47 = some (47, .invokevirtual 86, 3, 41, 0, 0)) rfl rfl rfl rfl rfl (ok_T_isNamed rfl rfl hv5) ?_
          by_cases hc5 : v5 = 0
          · rw [if_pos hc5] at hf
            refine t_jT (t := 56) (rfl : mfetch 40 50 = some (50, .ifCond .eq 6, 3, 0, 0, 0)) rfl (k_eq hc5) ?_
            refine mEnds.stp 2 (pc' := 59) (l' := [some (.ref 27)]) (st' := [.ref 8, .ref 27]) (fun _ => rfl) ?_
            obtain ⟨v6, hv6, hf⟩ := ob hf
            refine t_cv (as := [.ref 8]) (st := []) (rfl : mfetch 40 59 = some (59, .invokevirtual 86, 3, 41, 0, 0)) rfl rfl rfl rfl rfl (ok_T_isNamed rfl rfl hv6) ?_
            by_cases hc6 : v6 = 0
            · rw [if_pos hc6] at hf
              refine t_jT (t := 68) (rfl : mfetch 40 62 = some (62, .ifCond .eq 6, 3, 0, 0, 0)) rfl (k_eq hc6) ?_
              refine mEnds.stp 2 (pc' := 71) (l' := [some (.ref 27)]) (st' := [.ref 9, .ref 27]) (fun _ => rfl) ?_
              obtain ⟨v7, hv7, hf⟩ := ob hf
              refine t_cv (as := [.ref 9]) (st := []) (rfl : mfetch 40 71 = some (71, .invokevirtual 86, 3, 41, 0, 0)) rfl rfl rfl rfl rfl (ok_T_isNamed rfl rfl hv7) ?_
              by_cases hc7 : v7 = 0
              · rw [if_pos hc7] at hf
                refine t_jT (t := 82) (rfl : mfetch 40 74 = some (74, .ifCond .eq 8, 3, 0, 0, 0)) rfl (k_eq hc7) ?_
                refine mEnds.stp 1 (pc' := 84) (l' := [some (.ref 27)]) (st' := [.int (nI 13)]) (fun _ => rfl) ?_
                cases hf; exact mEnds.rt (fun _ => rfl)
              · rw [if_neg hc7] at hf
                refine t_jF (rfl : mfetch 40 74 = some (74, .ifCond .eq 8, 3, 0, 0, 0)) (k_eq' hc7) ?_
                refine mEnds.stp 2 (pc' := 84) (l' := [some (.ref 27)]) (st' := [.int (nI 12)]) (fun _ => rfl) ?_
                cases hf; exact mEnds.rt (fun _ => rfl)
            · rw [if_neg hc6] at hf
              refine t_jF (rfl : mfetch 40 62 = some (62, .ifCond .eq 6, 3, 0, 0, 0)) (k_eq' hc6) ?_
              refine mEnds.stp 1 (pc' := 67) (l' := [some (.ref 27)]) (st' := [.int (nI 11)]) (fun _ => rfl) ?_
              cases hf; exact mEnds.rt (fun _ => rfl)
          · rw [if_neg hc5] at hf
            refine t_jF (rfl : mfetch 40 50 = some (50, .ifCond .eq 6, 3, 0, 0, 0)) (k_eq' hc5) ?_
            refine mEnds.stp 1 (pc' := 55) (l' := [some (.ref 27)]) (st' := [.int (nI 10)]) (fun _ => rfl) ?_
            cases hf; exact mEnds.rt (fun _ => rfl)
        · rw [if_neg hc4] at hf
          refine t_jF (rfl : mfetch 40 39 = some (39, .ifCond .eq 5, 3, 0, 0, 0)) (k_eq' hc4) ?_
          refine mEnds.stp 1 (pc' := 43) (l' := [some (.ref 27)]) (st' := [.int (nI 3)]) (fun _ => rfl) ?_
          cases hf; exact mEnds.rt (fun _ => rfl)
      · rw [if_neg hc3] at hf
        refine t_jF (rfl : mfetch 40 28 = some (28, .ifCond .eq 5, 3, 0, 0, 0)) (k_eq' hc3) ?_
        refine mEnds.stp 1 (pc' := 32) (l' := [some (.ref 27)]) (st' := [.int (nI 2)]) (fun _ => rfl) ?_
        cases hf; exact mEnds.rt (fun _ => rfl)
    · rw [if_neg hc2] at hf
      refine t_jF (rfl : mfetch 40 17 = some (17, .ifCond .eq 5, 3, 0, 0, 0)) (k_eq' hc2) ?_
      refine mEnds.stp 1 (pc' := 21) (l' := [some (.ref 27)]) (st' := [.int (nI 1)]) (fun _ => rfl) ?_
      cases hf; exact mEnds.rt (fun _ => rfl)
  · rw [if_neg hc1] at hf
    refine t_jF (rfl : mfetch 40 6 = some (6, .ifCond .eq 5, 3, 0, 0, 0)) (k_eq' hc1) ?_
    refine mEnds.stp 1 (pc' := 10) (l' := [some (.ref 27)]) (st' := [.int (nI 0)]) (fun _ => rfl) ?_
    cases hf; exact mEnds.rt (fun _ => rfl)
def T_placeOfNext_5 (s : sg) : Nat → Int32 → Option Int32
  | 0, _ => none
  | fu + 1, x1 =>
  if x1 < s 27 1 then
    (midx x1 160).bind fun j1 =>
    if s 28 j1 = nI 32 then
      T_placeOfNext_5 s fu (x1 + (nI 1))
    else
      some x1
  else
    some x1
set_option maxRecDepth 100000 in
theorem ok_T_placeOfNext_5 {s : sg} : ∀ (fu : Nat) (x1 : Int32) (rv : Int32), T_placeOfNext_5 s fu x1 = some rv → mEnds [] 0 51 (5, [some (.ref 27), some (.int x1)], [], hp shC s, 0, 0) (some (.int rv), hp shC s, 0, 0)
  | 0, _, _, hf => by cases hf
  | fu + 1, x1, rv, hf => by
    rw [T_placeOfNext_5] at hf
    refine mEnds.stp 2 (pc' := 7) (l' := [some (.ref 27), some (.int x1)]) (st' := [.ref 27, .int x1]) (fun _ => rfl) ?_
    refine t_gi (rfl : mfetch 51 7 = some (7, .getfield 22, 3, 3, 1, 0)) rfl rfl ?_
    by_cases hc1 : x1 < s 27 1
    · rw [if_pos hc1] at hf
      refine t_cF (rfl : mfetch 51 10 = some (10, .if_icmp .ge 20, 3, 0, 0, 0)) (k_ge' hc1) ?_
      refine mEnds.stp 1 (pc' := 14) (l' := [some (.ref 27), some (.int x1)]) (st' := [.ref 27]) (fun _ => rfl) ?_
      refine t_gr (rfl : mfetch 51 14 = some (14, .getfield 11, 3, 3, 0, 0)) rfl rfl ?_
      refine mEnds.stp 1 (pc' := 18) (l' := [some (.ref 27), some (.int x1)]) (st' := [.int x1, .ref 28]) (fun _ => rfl) ?_
      obtain ⟨j1, hj1, hf⟩ := ob hf
      refine t_ba (rfl : mfetch 51 18 = some (18, .baload, 1, 0, 0, 0)) rfl rfl rfl hj1 ?_
      refine mEnds.stp 1 (pc' := 21) (l' := [some (.ref 27), some (.int x1)]) (st' := [.int (nI 32), .int (s 28 j1)]) (fun _ => rfl) ?_
      by_cases hc2 : s 28 j1 = nI 32
      · rw [if_pos hc2] at hf
        refine t_cF (rfl : mfetch 51 21 = some (21, .if_icmp .ne 9, 3, 0, 0, 0)) (k_ne' hc2) ?_
        refine mEnds.stp 2 (pc' := 5) (l' := [some (.ref 27), some (.int (x1 + (nI 1)))]) (st' := []) (fun _ => rfl) ?_
        refine mEnds.cut (l := [some (.ref 27), some (.int (x1 + (nI 1)))]) ⟨rfl, ⟨rfl, trivial⟩⟩ ?_
        exact ok_T_placeOfNext_5 fu (x1 + (nI 1)) _ hf
      · rw [if_neg hc2] at hf
        refine t_cT (t := 30) (rfl : mfetch 51 21 = some (21, .if_icmp .ne 9, 3, 0, 0, 0)) rfl (k_ne hc2) ?_
        refine mEnds.stp 1 (pc' := 31) (l' := [some (.ref 27), some (.int x1)]) (st' := [.int x1]) (fun _ => rfl) ?_
        cases hf; exact mEnds.rt (fun _ => rfl)
    · rw [if_neg hc1] at hf
      refine t_cT (t := 30) (rfl : mfetch 51 10 = some (10, .if_icmp .ge 20, 3, 0, 0, 0)) rfl (k_ge hc1) ?_
      refine mEnds.stp 1 (pc' := 31) (l' := [some (.ref 27), some (.int x1)]) (st' := [.int x1]) (fun _ => rfl) ?_
      cases hf; exact mEnds.rt (fun _ => rfl)
def T_placeOfNext (s : sg) : Option Int32 :=
  T_placeOfNext_5 s FU (s 27 8)
set_option maxRecDepth 100000 in
theorem ok_T_placeOfNext {s : sg} {rv : Int32} (hf : T_placeOfNext s = some rv) : mEnds [] 0 51 (0, [some (.ref 27), none], [], hp shC s, 0, 0) (some (.int rv), hp shC s, 0, 0) := by
  unfold T_placeOfNext at hf
  refine mEnds.stp 1 (pc' := 1) (l' := [some (.ref 27), none]) (st' := [.ref 27]) (fun _ => rfl) ?_
  refine t_gi (rfl : mfetch 51 1 = some (1, .getfield 38, 3, 3, 8, 0)) rfl rfl ?_
  refine mEnds.stp 1 (pc' := 5) (l' := [some (.ref 27), some (.int (s 27 8))]) (st' := []) (fun _ => rfl) ?_
  refine mEnds.cut (l := [some (.ref 27), some (.int (s 27 8))]) ⟨rfl, ⟨rfl, trivial⟩⟩ ?_
  exact ok_T_placeOfNext_5 FU (s 27 8) _ hf
def T_sortOf_28 (x0 : Int32) (s : sg) : Option Int32 :=
  if x0 = nI 59 then
    some (nI 3)
  else
    some (nI 4)
set_option maxRecDepth 100000 in
theorem ok_T_sortOf_28 {x0 : Int32} {s : sg} {rv : Int32} (hf : T_sortOf_28 x0 s = some rv) : mEnds [] 0 52 (28, [some (.int x0)], [], hp shC s, 0, 0) (some (.int rv), hp shC s, 0, 0) := by
  unfold T_sortOf_28 at hf
  refine mEnds.stp 2 (pc' := 31) (l' := [some (.int x0)]) (st' := [.int (nI 59), .int x0]) (fun _ => rfl) ?_
  by_cases hc1 : x0 = nI 59
  · rw [if_pos hc1] at hf
    refine t_cF (rfl : mfetch 52 31 = some (31, .if_icmp .ne 7, 3, 0, 0, 0)) (k_ne' hc1) ?_
    refine mEnds.stp 2 (pc' := 39) (l' := [some (.int x0)]) (st' := [.int (nI 3)]) (fun _ => rfl) ?_
    cases hf; exact mEnds.rt (fun _ => rfl)
  · rw [if_neg hc1] at hf
    refine t_cT (t := 38) (rfl : mfetch 52 31 = some (31, .if_icmp .ne 7, 3, 0, 0, 0)) rfl (k_ne hc1) ?_
    refine mEnds.stp 1 (pc' := 39) (l' := [some (.int x0)]) (st' := [.int (nI 4)]) (fun _ => rfl) ?_
    cases hf; exact mEnds.rt (fun _ => rfl)
def T_sortOf_14 (x0 : Int32) (s : sg) : Option Int32 :=
  if x0 < nI 48 then
    T_sortOf_28 x0 s
  else
    if nI 57 < x0 then
      T_sortOf_28 x0 s
    else
      some (nI 2)
set_option maxRecDepth 100000 in
theorem ok_T_sortOf_14 {x0 : Int32} {s : sg} {rv : Int32} (hf : T_sortOf_14 x0 s = some rv) : mEnds [] 0 52 (14, [some (.int x0)], [], hp shC s, 0, 0) (some (.int rv), hp shC s, 0, 0) := by
  unfold T_sortOf_14 at hf
  refine mEnds.stp 2 (pc' := 17) (l' := [some (.int x0)]) (st' := [.int (nI 48), .int x0]) (fun _ => rfl) ?_
  by_cases hc1 : x0 < nI 48
  · rw [if_pos hc1] at hf
    refine t_cT (t := 28) (rfl : mfetch 52 17 = some (17, .if_icmp .lt 11, 3, 0, 0, 0)) rfl (k_lt hc1) ?_
    refine mEnds.cut (l := [some (.int x0)]) ⟨rfl, trivial⟩ ?_
    exact ok_T_sortOf_28 hf
  · rw [if_neg hc1] at hf
    refine t_cF (rfl : mfetch 52 17 = some (17, .if_icmp .lt 11, 3, 0, 0, 0)) (k_lt' hc1) ?_
    refine mEnds.stp 2 (pc' := 23) (l' := [some (.int x0)]) (st' := [.int (nI 57), .int x0]) (fun _ => rfl) ?_
    by_cases hc2 : nI 57 < x0
    · rw [if_pos hc2] at hf
      refine t_cT (t := 28) (rfl : mfetch 52 23 = some (23, .if_icmp .gt 5, 3, 0, 0, 0)) rfl (k_gt hc2) ?_
      refine mEnds.cut (l := [some (.int x0)]) ⟨rfl, trivial⟩ ?_
      exact ok_T_sortOf_28 hf
    · rw [if_neg hc2] at hf
      refine t_cF (rfl : mfetch 52 23 = some (23, .if_icmp .gt 5, 3, 0, 0, 0)) (k_gt' hc2) ?_
      refine mEnds.stp 1 (pc' := 27) (l' := [some (.int x0)]) (st' := [.int (nI 2)]) (fun _ => rfl) ?_
      cases hf; exact mEnds.rt (fun _ => rfl)
def T_sortOf (x0 : Int32) (s : sg) : Option Int32 :=
  if x0 < nI 97 then
    T_sortOf_14 x0 s
  else
    if nI 122 < x0 then
      T_sortOf_14 x0 s
    else
      some (nI 1)
set_option maxRecDepth 100000 in
theorem ok_T_sortOf {x0 : Int32} {s : sg} {rv : Int32} (hf : T_sortOf x0 s = some rv) : mEnds [] 0 52 (0, [some (.int x0)], [], hp shC s, 0, 0) (some (.int rv), hp shC s, 0, 0) := by
  unfold T_sortOf at hf
  refine mEnds.stp 2 (pc' := 3) (l' := [some (.int x0)]) (st' := [.int (nI 97), .int x0]) (fun _ => rfl) ?_
  by_cases hc1 : x0 < nI 97
  · rw [if_pos hc1] at hf
    refine t_cT (t := 14) (rfl : mfetch 52 3 = some (3, .if_icmp .lt 11, 3, 0, 0, 0)) rfl (k_lt hc1) ?_
    refine mEnds.cut (l := [some (.int x0)]) ⟨rfl, trivial⟩ ?_
    exact ok_T_sortOf_14 hf
  · rw [if_neg hc1] at hf
    refine t_cF (rfl : mfetch 52 3 = some (3, .if_icmp .lt 11, 3, 0, 0, 0)) (k_lt' hc1) ?_
    refine mEnds.stp 2 (pc' := 9) (l' := [some (.int x0)]) (st' := [.int (nI 122), .int x0]) (fun _ => rfl) ?_
    by_cases hc2 : nI 122 < x0
    · rw [if_pos hc2] at hf
      refine t_cT (t := 14) (rfl : mfetch 52 9 = some (9, .if_icmp .gt 5, 3, 0, 0, 0)) rfl (k_gt hc2) ?_
      refine mEnds.cut (l := [some (.int x0)]) ⟨rfl, trivial⟩ ?_
      exact ok_T_sortOf_14 hf
    · rw [if_neg hc2] at hf
      refine t_cF (rfl : mfetch 52 9 = some (9, .if_icmp .gt 5, 3, 0, 0, 0)) (k_gt' hc2) ?_
      refine mEnds.stp 1 (pc' := 13) (l' := [some (.int x0)]) (st' := [.int (nI 1)]) (fun _ => rfl) ?_
      cases hf; exact mEnds.rt (fun _ => rfl)
def T_nextToken_153 (s : sg) : Option sg :=
  (some (up s 27 6 (nI 4))).bind fun s1 =>
  (T_fail (nI 1) (s1 27 7) s1).bind fun s2 =>
  some s2
set_option maxRecDepth 100000 in
theorem ok_T_nextToken_153 {s : sg} {rv : sg} (hf : T_nextToken_153 s = some rv) : mEnds [] 1 50 (153, [some (.ref 27)], [], hp shC s, 0, 0) (none, hp shC rv, 0, 0) := by
  unfold T_nextToken_153 at hf
  refine mEnds.stp 2 (pc' := 155) (l' := [some (.ref 27)]) (st' := [.int (nI 4), .ref 27]) (fun _ => rfl) ?_
  obtain ⟨s1, hs1, hf⟩ := ob hf
  refine t_pi (rfl : mfetch 50 155 = some (155, .putfield 51, 3, 3, 6, 0)) rfl rfl rfl rfl hs1 ?_
  refine mEnds.stp 3 (pc' := 161) (l' := [some (.ref 27)]) (st' := [.ref 27, .int (nI 1), .ref 27]) (fun _ => rfl) ?_
  refine t_gi (rfl : mfetch 50 161 = some (161, .getfield 64, 3, 3, 7, 0)) rfl rfl ?_
  obtain ⟨s2, hs2, hf⟩ := ob hf
  refine t_cv (as := [.int (nI 1), .int (s1 27 7)]) (st := []) (rfl : mfetch 50 164 = some (164, .invokevirtual 67, 3, 38, 0, 0)) rfl rfl rfl rfl rfl (ok_T_fail hs2) ?_
  cases hf; exact mEnds.rt (fun _ => rfl)
def T_nextToken_124 (s : sg) : Option sg :=
  if s 27 6 = nI 4 then
    T_nextToken_153 s
  else
    if s 27 6 = nI 2 then
      if nI 2 < (s 27 8) - (s 27 7) then
        T_nextToken_153 s
      else
        some s
    else
      some s
set_option maxRecDepth 100000 in
theorem ok_T_nextToken_124 {s : sg} {rv : sg} (hf : T_nextToken_124 s = some rv) : mEnds [] 1 50 (124, [some (.ref 27)], [], hp shC s, 0, 0) (none, hp shC rv, 0, 0) := by
  unfold T_nextToken_124 at hf
  refine mEnds.stp 1 (pc' := 125) (l' := [some (.ref 27)]) (st' := [.ref 27]) (fun _ => rfl) ?_
  refine t_gi (rfl : mfetch 50 125 = some (125, .getfield 51, 3, 3, 6, 0)) rfl rfl ?_
  refine mEnds.stp 1 (pc' := 129) (l' := [some (.ref 27)]) (st' := [.int (nI 4), .int (s 27 6)]) (fun _ => rfl) ?_
  by_cases hc1 : s 27 6 = nI 4
  · rw [if_pos hc1] at hf
    refine t_cT (t := 153) (rfl : mfetch 50 129 = some (129, .if_icmp .eq 24, 3, 0, 0, 0)) rfl (k_eq hc1) ?_
    refine mEnds.cut (l := [some (.ref 27)]) ⟨rfl, trivial⟩ ?_
    exact ok_T_nextToken_153 hf
  · rw [if_neg hc1] at hf
    refine t_cF (rfl : mfetch 50 129 = some (129, .if_icmp .eq 24, 3, 0, 0, 0)) (k_eq' hc1) ?_
    refine mEnds.stp 1 (pc' := 133) (l' := [some (.ref 27)]) (st' := [.ref 27]) (fun _ => rfl) ?_
    refine t_gi (rfl : mfetch 50 133 = some (133, .getfield 51, 3, 3, 6, 0)) rfl rfl ?_
    refine mEnds.stp 1 (pc' := 137) (l' := [some (.ref 27)]) (st' := [.int (nI 2), .int (s 27 6)]) (fun _ => rfl) ?_
    by_cases hc2 : s 27 6 = nI 2
    · rw [if_pos hc2] at hf
      refine t_cF (rfl : mfetch 50 137 = some (137, .if_icmp .ne 30, 3, 0, 0, 0)) (k_ne' hc2) ?_
      refine mEnds.stp 1 (pc' := 141) (l' := [some (.ref 27)]) (st' := [.ref 27]) (fun _ => rfl) ?_
      refine t_gi (rfl : mfetch 50 141 = some (141, .getfield 38, 3, 3, 8, 0)) rfl rfl ?_
      refine mEnds.stp 1 (pc' := 145) (l' := [some (.ref 27)]) (st' := [.ref 27, .int (s 27 8)]) (fun _ => rfl) ?_
      refine t_gi (rfl : mfetch 50 145 = some (145, .getfield 64, 3, 3, 7, 0)) rfl rfl ?_
      refine mEnds.stp 2 (pc' := 150) (l' := [some (.ref 27)]) (st' := [.int (nI 2), .int ((s 27 8) - (s 27 7))]) (fun _ => rfl) ?_
      by_cases hc3 : nI 2 < (s 27 8) - (s 27 7)
      · rw [if_pos hc3] at hf
        refine t_cF (rfl : mfetch 50 150 = some (150, .if_icmp .le 17, 3, 0, 0, 0)) (k_le' hc3) ?_
        refine mEnds.cut (l := [some (.ref 27)]) ⟨rfl, trivial⟩ ?_
        exact ok_T_nextToken_153 hf
      · rw [if_neg hc3] at hf
        refine t_cT (t := 167) (rfl : mfetch 50 150 = some (150, .if_icmp .le 17, 3, 0, 0, 0)) rfl (k_le hc3) ?_
        cases hf; exact mEnds.rt (fun _ => rfl)
    · rw [if_neg hc2] at hf
      refine t_cT (t := 167) (rfl : mfetch 50 137 = some (137, .if_icmp .ne 30, 3, 0, 0, 0)) rfl (k_ne hc2) ?_
      cases hf; exact mEnds.rt (fun _ => rfl)
def T_nextToken_81 : Nat → sg → Option sg
  | 0, _ => none
  | fu + 1, s =>
  if s 27 8 < s 27 1 then
    (midx (s 27 8) 160).bind fun j1 =>
    (T_sortOf (s 28 j1) s).bind fun v1 =>
    if v1 = s 27 6 then
      (some (up s 27 8 ((s 27 8) + (nI 1)))).bind fun s1 =>
      T_nextToken_81 fu s1
    else
      T_nextToken_124 s
  else
    T_nextToken_124 s
set_option maxRecDepth 100000 in
theorem ok_T_nextToken_81 : ∀ (fu : Nat) (s : sg) (rv : sg), T_nextToken_81 fu s = some rv → mEnds [] 1 50 (81, [some (.ref 27)], [], hp shC s, 0, 0) (none, hp shC rv, 0, 0)
  | 0, _, _, hf => by cases hf
  | fu + 1, s, rv, hf => by
    rw [T_nextToken_81] at hf
    refine mEnds.stp 1 (pc' := 82) (l' := [some (.ref 27)]) (st' := [.ref 27]) (fun _ => rfl) ?_
    refine t_gi (rfl : mfetch 50 82 = some (82, .getfield 38, 3, 3, 8, 0)) rfl rfl ?_
    refine mEnds.stp 1 (pc' := 86) (l' := [some (.ref 27)]) (st' := [.ref 27, .int (s 27 8)]) (fun _ => rfl) ?_
    refine t_gi (rfl : mfetch 50 86 = some (86, .getfield 22, 3, 3, 1, 0)) rfl rfl ?_
    by_cases hc1 : s 27 8 < s 27 1
    · rw [if_pos hc1] at hf
      refine t_cF (rfl : mfetch 50 89 = some (89, .if_icmp .ge 35, 3, 0, 0, 0)) (k_ge' hc1) ?_
      refine mEnds.stp 1 (pc' := 93) (l' := [some (.ref 27)]) (st' := [.ref 27]) (fun _ => rfl) ?_
      refine t_gr (rfl : mfetch 50 93 = some (93, .getfield 11, 3, 3, 0, 0)) rfl rfl ?_
      refine mEnds.stp 1 (pc' := 97) (l' := [some (.ref 27)]) (st' := [.ref 27, .ref 28]) (fun _ => rfl) ?_
      refine t_gi (rfl : mfetch 50 97 = some (97, .getfield 38, 3, 3, 8, 0)) rfl rfl ?_
      obtain ⟨j1, hj1, hf⟩ := ob hf
      refine t_ba (rfl : mfetch 50 100 = some (100, .baload, 1, 0, 0, 0)) rfl rfl rfl hj1 ?_
      obtain ⟨v1, hv1, hf⟩ := ob hf
      refine t_cs (as := [.int (s 28 j1)]) (st := []) (Or.inl rfl) (rfl : mfetch 50 101 = some (101, .invokestatic 155, 3, 52, 0, 0)) rfl rfl rfl (ok_T_sortOf hv1) ?_
      refine mEnds.stp 1 (pc' := 105) (l' := [some (.ref 27)]) (st' := [.ref 27, .int v1]) (fun _ => rfl) ?_
      refine t_gi (rfl : mfetch 50 105 = some (105, .getfield 51, 3, 3, 6, 0)) rfl rfl ?_
      by_cases hc2 : v1 = s 27 6
      · rw [if_pos hc2] at hf
        refine t_cF (rfl : mfetch 50 108 = some (108, .if_icmp .ne 16, 3, 0, 0, 0)) (k_ne' hc2) ?_
        refine mEnds.stp 2 (pc' := 113) (l' := [some (.ref 27)]) (st' := [.ref 27, .ref 27]) (fun _ => rfl) ?_
        refine t_gi (rfl : mfetch 50 113 = some (113, .getfield 38, 3, 3, 8, 0)) rfl rfl ?_
        refine mEnds.stp 2 (pc' := 118) (l' := [some (.ref 27)]) (st' := [.int ((s 27 8) + (nI 1)), .ref 27]) (fun _ => rfl) ?_
        obtain ⟨s1, hs1, hf⟩ := ob hf
        refine t_pi (rfl : mfetch 50 118 = some (118, .putfield 38, 3, 3, 8, 0)) rfl rfl rfl rfl hs1 ?_
        refine mEnds.stp 1 (pc' := 81) (l' := [some (.ref 27)]) (st' := []) (fun _ => rfl) ?_
        refine mEnds.cut (l := [some (.ref 27)]) ⟨rfl, trivial⟩ ?_
        exact ok_T_nextToken_81 fu s1 _ hf
      · rw [if_neg hc2] at hf
        refine t_cT (t := 124) (rfl : mfetch 50 108 = some (108, .if_icmp .ne 16, 3, 0, 0, 0)) rfl (k_ne hc2) ?_
        refine mEnds.cut (l := [some (.ref 27)]) ⟨rfl, trivial⟩ ?_
        exact ok_T_nextToken_124 hf
    · rw [if_neg hc1] at hf
      refine t_cT (t := 124) (rfl : mfetch 50 89 = some (89, .if_icmp .ge 35, 3, 0, 0, 0)) rfl (k_ge hc1) ?_
      refine mEnds.cut (l := [some (.ref 27)]) ⟨rfl, trivial⟩ ?_
      exact ok_T_nextToken_124 hf
def T_nextToken_65 (s : sg) : Option sg :=
  if s 27 6 = nI 1 then
    T_nextToken_81 FU s
  else
    if s 27 6 = nI 2 then
      T_nextToken_81 FU s
    else
      T_nextToken_124 s
set_option maxRecDepth 100000 in
theorem ok_T_nextToken_65 {s : sg} {rv : sg} (hf : T_nextToken_65 s = some rv) : mEnds [] 1 50 (65, [some (.ref 27)], [], hp shC s, 0, 0) (none, hp shC rv, 0, 0) := by
  unfold T_nextToken_65 at hf
  refine mEnds.stp 1 (pc' := 66) (l' := [some (.ref 27)]) (st' := [.ref 27]) (fun _ => rfl) ?_
  refine t_gi (rfl : mfetch 50 66 = some (66, .getfield 51, 3, 3, 6, 0)) rfl rfl ?_
  refine mEnds.stp 1 (pc' := 70) (l' := [some (.ref 27)]) (st' := [.int (nI 1), .int (s 27 6)]) (fun _ => rfl) ?_
  by_cases hc1 : s 27 6 = nI 1
  · rw [if_pos hc1] at hf
    refine t_cT (t := 81) (rfl : mfetch 50 70 = some (70, .if_icmp .eq 11, 3, 0, 0, 0)) rfl (k_eq hc1) ?_
    refine mEnds.cut (l := [some (.ref 27)]) ⟨rfl, trivial⟩ ?_
    exact ok_T_nextToken_81 FU s _ hf
  · rw [if_neg hc1] at hf
    refine t_cF (rfl : mfetch 50 70 = some (70, .if_icmp .eq 11, 3, 0, 0, 0)) (k_eq' hc1) ?_
    refine mEnds.stp 1 (pc' := 74) (l' := [some (.ref 27)]) (st' := [.ref 27]) (fun _ => rfl) ?_
    refine t_gi (rfl : mfetch 50 74 = some (74, .getfield 51, 3, 3, 6, 0)) rfl rfl ?_
    refine mEnds.stp 1 (pc' := 78) (l' := [some (.ref 27)]) (st' := [.int (nI 2), .int (s 27 6)]) (fun _ => rfl) ?_
    by_cases hc2 : s 27 6 = nI 2
    · rw [if_pos hc2] at hf
      refine t_cF (rfl : mfetch 50 78 = some (78, .if_icmp .ne 46, 3, 0, 0, 0)) (k_ne' hc2) ?_
      refine mEnds.cut (l := [some (.ref 27)]) ⟨rfl, trivial⟩ ?_
      exact ok_T_nextToken_81 FU s _ hf
    · rw [if_neg hc2] at hf
      refine t_cT (t := 124) (rfl : mfetch 50 78 = some (78, .if_icmp .ne 46, 3, 0, 0, 0)) rfl (k_ne hc2) ?_
      refine mEnds.cut (l := [some (.ref 27)]) ⟨rfl, trivial⟩ ?_
      exact ok_T_nextToken_124 hf
def T_nextToken_44 (y0 : Int32) (s : sg) : Option sg :=
  (some (up s 27 6 y0)).bind fun s1 =>
  if s1 27 6 = nI 3 then
    (some (up s1 27 8 ((s1 27 8) + (nI 1)))).bind fun s2 =>
    T_nextToken_65 s2
  else
    T_nextToken_65 s1
set_option maxRecDepth 100000 in
theorem ok_T_nextToken_44 {y0 : Int32} {s : sg} {rv : sg} (hf : T_nextToken_44 y0 s = some rv) : mEnds [] 1 50 (44, [some (.ref 27)], [.int y0, .ref 27], hp shC s, 0, 0) (none, hp shC rv, 0, 0) := by
  unfold T_nextToken_44 at hf
  obtain ⟨s1, hs1, hf⟩ := ob hf
  refine t_pi (rfl : mfetch 50 44 = some (44, .putfield 51, 3, 3, 6, 0)) rfl rfl rfl rfl hs1 ?_
  refine mEnds.stp 1 (pc' := 48) (l' := [some (.ref 27)]) (st' := [.ref 27]) (fun _ => rfl) ?_
  refine t_gi (rfl : mfetch 50 48 = some (48, .getfield 51, 3, 3, 6, 0)) rfl rfl ?_
  refine mEnds.stp 1 (pc' := 52) (l' := [some (.ref 27)]) (st' := [.int (nI 3), .int (s1 27 6)]) (fun _ => rfl) ?_
  by_cases hc1 : s1 27 6 = nI 3
  · rw [if_pos hc1] at hf
    refine t_cF (rfl : mfetch 50 52 = some (52, .if_icmp .ne 13, 3, 0, 0, 0)) (k_ne' hc1) ?_
    refine mEnds.stp 2 (pc' := 57) (l' := [some (.ref 27)]) (st' := [.ref 27, .ref 27]) (fun _ => rfl) ?_
    refine t_gi (rfl : mfetch 50 57 = some (57, .getfield 38, 3, 3, 8, 0)) rfl rfl ?_
    refine mEnds.stp 2 (pc' := 62) (l' := [some (.ref 27)]) (st' := [.int ((s1 27 8) + (nI 1)), .ref 27]) (fun _ => rfl) ?_
    obtain ⟨s2, hs2, hf⟩ := ob hf
    refine t_pi (rfl : mfetch 50 62 = some (62, .putfield 38, 3, 3, 8, 0)) rfl rfl rfl rfl hs2 ?_
    refine mEnds.cut (l := [some (.ref 27)]) ⟨rfl, trivial⟩ ?_
    exact ok_T_nextToken_65 hf
  · rw [if_neg hc1] at hf
    refine t_cT (t := 65) (rfl : mfetch 50 52 = some (52, .if_icmp .ne 13, 3, 0, 0, 0)) rfl (k_ne hc1) ?_
    refine mEnds.cut (l := [some (.ref 27)]) ⟨rfl, trivial⟩ ?_
    exact ok_T_nextToken_65 hf
def T_nextToken (s : sg) : Option sg :=
  (T_placeOfNext s).bind fun v1 =>
  (some (up s 27 7 v1)).bind fun s1 =>
  (some (up s1 27 8 (s1 27 7))).bind fun s2 =>
  if s2 27 7 < s2 27 1 then
    (midx (s2 27 7) 160).bind fun j1 =>
    (T_sortOf (s2 28 j1) s2).bind fun v2 =>
    T_nextToken_44 v2 s2
  else
    T_nextToken_44 (nI 0) s2
set_option maxRecDepth 100000 in
theorem ok_T_nextToken {s : sg} {rv : sg} (hf : T_nextToken s = some rv) : mEnds [] 1 50 (0, [some (.ref 27)], [], hp shC s, 0, 0) (none, hp shC rv, 0, 0) := by
  unfold T_nextToken at hf
  refine mEnds.stp 2 (pc' := 2) (l' := [some (.ref 27)]) (st' := [.ref 27, .ref 27]) (fun _ => rfl) ?_
  obtain ⟨v1, hv1, hf⟩ := ob hf
  refine t_cv (as := []) (st := [.ref 27]) (rfl : mfetch 50 2 = some (2, .invokevirtual 152, 3, 51, 0, 0)) rfl rfl rfl rfl rfl (ok_T_placeOfNext hv1) ?_
  obtain ⟨s1, hs1, hf⟩ := ob hf
  refine t_pi (rfl : mfetch 50 5 = some (5, .putfield 64, 3, 3, 7, 0)) rfl rfl rfl rfl hs1 ?_
  refine mEnds.stp 2 (pc' := 10) (l' := [some (.ref 27)]) (st' := [.ref 27, .ref 27]) (fun _ => rfl) ?_
  refine t_gi (rfl : mfetch 50 10 = some (10, .getfield 64, 3, 3, 7, 0)) rfl rfl ?_
  obtain ⟨s2, hs2, hf⟩ := ob hf
  refine t_pi (rfl : mfetch 50 13 = some (13, .putfield 38, 3, 3, 8, 0)) rfl rfl rfl rfl hs2 ?_
  refine mEnds.stp 2 (pc' := 18) (l' := [some (.ref 27)]) (st' := [.ref 27, .ref 27]) (fun _ => rfl) ?_
  refine t_gi (rfl : mfetch 50 18 = some (18, .getfield 64, 3, 3, 7, 0)) rfl rfl ?_
  refine mEnds.stp 1 (pc' := 22) (l' := [some (.ref 27)]) (st' := [.ref 27, .int (s2 27 7), .ref 27]) (fun _ => rfl) ?_
  refine t_gi (rfl : mfetch 50 22 = some (22, .getfield 22, 3, 3, 1, 0)) rfl rfl ?_
  by_cases hc1 : s2 27 7 < s2 27 1
  · rw [if_pos hc1] at hf
    refine t_cF (rfl : mfetch 50 25 = some (25, .if_icmp .ge 18, 3, 0, 0, 0)) (k_ge' hc1) ?_
    refine mEnds.stp 1 (pc' := 29) (l' := [some (.ref 27)]) (st' := [.ref 27, .ref 27]) (fun _ => rfl) ?_
    refine t_gr (rfl : mfetch 50 29 = some (29, .getfield 11, 3, 3, 0, 0)) rfl rfl ?_
    refine mEnds.stp 1 (pc' := 33) (l' := [some (.ref 27)]) (st' := [.ref 27, .ref 28, .ref 27]) (fun _ => rfl) ?_
    refine t_gi (rfl : mfetch 50 33 = some (33, .getfield 64, 3, 3, 7, 0)) rfl rfl ?_
    obtain ⟨j1, hj1, hf⟩ := ob hf
    refine t_ba (rfl : mfetch 50 36 = some (36, .baload, 1, 0, 0, 0)) rfl rfl rfl hj1 ?_
    obtain ⟨v2, hv2, hf⟩ := ob hf
    refine t_cs (as := [.int (s2 28 j1)]) (st := [.ref 27]) (Or.inl rfl) (rfl : mfetch 50 37 = some (37, .invokestatic 155, 3, 52, 0, 0)) rfl rfl rfl (ok_T_sortOf hv2) ?_
    refine mEnds.stp 1 (pc' := 44) (l' := [some (.ref 27)]) (st' := [.int v2, .ref 27]) (fun _ => rfl) ?_
    refine mEnds.cut (l := [some (.ref 27)]) ⟨rfl, trivial⟩ ?_
    exact ok_T_nextToken_44 hf
  · rw [if_neg hc1] at hf
    refine t_cT (t := 43) (rfl : mfetch 50 25 = some (25, .if_icmp .ge 18, 3, 0, 0, 0)) rfl (k_ge hc1) ?_
    refine mEnds.stp 1 (pc' := 44) (l' := [some (.ref 27)]) (st' := [.int (nI 0), .ref 27]) (fun _ => rfl) ?_
    refine mEnds.cut (l := [some (.ref 27)]) ⟨rfl, trivial⟩ ?_
    exact ok_T_nextToken_44 hf
def T_endLine (s : sg) : Option sg :=
  (T_nextToken s).bind fun s1 =>
  if s1 27 6 = nI 3 then
    some s1
  else
    (T_fail (nI 2) (s1 27 7) s1).bind fun s2 =>
    some s2
set_option maxRecDepth 100000 in
theorem ok_T_endLine {s : sg} {rv : sg} (hf : T_endLine s = some rv) : mEnds [] 2 47 (0, [some (.ref 27)], [], hp shC s, 0, 0) (none, hp shC rv, 0, 0) := by
  unfold T_endLine at hf
  refine mEnds.stp 1 (pc' := 1) (l' := [some (.ref 27)]) (st' := [.ref 27]) (fun _ => rfl) ?_
  obtain ⟨s1, hs1, hf⟩ := ob hf
  refine t_cv (as := []) (st := []) (rfl : mfetch 47 1 = some (1, .invokevirtual 48, 3, 50, 0, 0)) rfl rfl rfl rfl rfl (ok_T_nextToken hs1) ?_
  refine mEnds.stp 1 (pc' := 5) (l' := [some (.ref 27)]) (st' := [.ref 27]) (fun _ => rfl) ?_
  refine t_gi (rfl : mfetch 47 5 = some (5, .getfield 51, 3, 3, 6, 0)) rfl rfl ?_
  refine mEnds.stp 1 (pc' := 9) (l' := [some (.ref 27)]) (st' := [.int (nI 3), .int (s1 27 6)]) (fun _ => rfl) ?_
  by_cases hc1 : s1 27 6 = nI 3
  · rw [if_pos hc1] at hf
    refine t_cT (t := 21) (rfl : mfetch 47 9 = some (9, .if_icmp .eq 12, 3, 0, 0, 0)) rfl (k_eq hc1) ?_
    cases hf; exact mEnds.rt (fun _ => rfl)
  · rw [if_neg hc1] at hf
    refine t_cF (rfl : mfetch 47 9 = some (9, .if_icmp .eq 12, 3, 0, 0, 0)) (k_eq' hc1) ?_
    refine mEnds.stp 3 (pc' := 15) (l' := [some (.ref 27)]) (st' := [.ref 27, .int (nI 2), .ref 27]) (fun _ => rfl) ?_
    refine t_gi (rfl : mfetch 47 15 = some (15, .getfield 64, 3, 3, 7, 0)) rfl rfl ?_
    obtain ⟨s2, hs2, hf⟩ := ob hf
    refine t_cv (as := [.int (nI 2), .int (s1 27 7)]) (st := []) (rfl : mfetch 47 18 = some (18, .invokevirtual 67, 3, 38, 0, 0)) rfl rfl rfl rfl rfl ((ok_T_fail hs2).deep 1) ?_
    cases hf; exact mEnds.rt (fun _ => rfl)
def T_tokenValue_7 (s : sg) : Nat → Int32 → Int32 → Option Int32
  | 0, _, _ => none
  | fu + 1, x1, x2 =>
  if x2 < s 27 8 then
    if s 27 6 = nI 2 then
      (midx x2 160).bind fun j1 =>
      T_tokenValue_7 s fu ((((nI 10) * x1) + (s 28 j1)) - (nI 48)) (x2 + (nI 1))
    else
      some x1
  else
    some x1
set_option maxRecDepth 100000 in
theorem ok_T_tokenValue_7 {s : sg} : ∀ (fu : Nat) (x1 : Int32) (x2 : Int32) (rv : Int32), T_tokenValue_7 s fu x1 x2 = some rv → mEnds [] 0 49 (7, [some (.ref 27), some (.int x1), some (.int x2)], [], hp shC s, 0, 0) (some (.int rv), hp shC s, 0, 0)
  | 0, _, _, _, hf => by cases hf
  | fu + 1, x1, x2, rv, hf => by
    rw [T_tokenValue_7] at hf
    refine mEnds.stp 2 (pc' := 9) (l' := [some (.ref 27), some (.int x1), some (.int x2)]) (st' := [.ref 27, .int x2]) (fun _ => rfl) ?_
    refine t_gi (rfl : mfetch 49 9 = some (9, .getfield 38, 3, 3, 8, 0)) rfl rfl ?_
    by_cases hc1 : x2 < s 27 8
    · rw [if_pos hc1] at hf
      refine t_cF (rfl : mfetch 49 12 = some (12, .if_icmp .ge 32, 3, 0, 0, 0)) (k_ge' hc1) ?_
      refine mEnds.stp 1 (pc' := 16) (l' := [some (.ref 27), some (.int x1), some (.int x2)]) (st' := [.ref 27]) (fun _ => rfl) ?_
      refine t_gi (rfl : mfetch 49 16 = some (16, .getfield 51, 3, 3, 6, 0)) rfl rfl ?_
      refine mEnds.stp 1 (pc' := 20) (l' := [some (.ref 27), some (.int x1), some (.int x2)]) (st' := [.int (nI 2), .int (s 27 6)]) (fun _ => rfl) ?_
      by_cases hc2 : s 27 6 = nI 2
      · rw [if_pos hc2] at hf
        refine t_cF (rfl : mfetch 49 20 = some (20, .if_icmp .ne 24, 3, 0, 0, 0)) (k_ne' hc2) ?_
        refine mEnds.stp 4 (pc' := 28) (l' := [some (.ref 27), some (.int x1), some (.int x2)]) (st' := [.ref 27, .int ((nI 10) * x1)]) (fun _ => rfl) ?_
        refine t_gr (rfl : mfetch 49 28 = some (28, .getfield 11, 3, 3, 0, 0)) rfl rfl ?_
        refine mEnds.stp 1 (pc' := 32) (l' := [some (.ref 27), some (.int x1), some (.int x2)]) (st' := [.int x2, .ref 28, .int ((nI 10) * x1)]) (fun _ => rfl) ?_
        obtain ⟨j1, hj1, hf⟩ := ob hf
        refine t_ba (rfl : mfetch 49 32 = some (32, .baload, 1, 0, 0, 0)) rfl rfl rfl hj1 ?_
        refine mEnds.stp 6 (pc' := 7) (l' := [some (.ref 27), some (.int ((((nI 10) * x1) + (s 28 j1)) - (nI 48))), some (.int (x2 + (nI 1)))]) (st' := []) (fun _ => rfl) ?_
        refine mEnds.cut (l := [some (.ref 27), some (.int ((((nI 10) * x1) + (s 28 j1)) - (nI 48))), some (.int (x2 + (nI 1)))]) ⟨rfl, ⟨rfl, ⟨rfl, trivial⟩⟩⟩ ?_
        exact ok_T_tokenValue_7 fu ((((nI 10) * x1) + (s 28 j1)) - (nI 48)) (x2 + (nI 1)) _ hf
      · rw [if_neg hc2] at hf
        refine t_cT (t := 44) (rfl : mfetch 49 20 = some (20, .if_icmp .ne 24, 3, 0, 0, 0)) rfl (k_ne hc2) ?_
        refine mEnds.stp 1 (pc' := 45) (l' := [some (.ref 27), some (.int x1), some (.int x2)]) (st' := [.int x1]) (fun _ => rfl) ?_
        cases hf; exact mEnds.rt (fun _ => rfl)
    · rw [if_neg hc1] at hf
      refine t_cT (t := 44) (rfl : mfetch 49 12 = some (12, .if_icmp .ge 32, 3, 0, 0, 0)) rfl (k_ge hc1) ?_
      refine mEnds.stp 1 (pc' := 45) (l' := [some (.ref 27), some (.int x1), some (.int x2)]) (st' := [.int x1]) (fun _ => rfl) ?_
      cases hf; exact mEnds.rt (fun _ => rfl)
def T_tokenValue (s : sg) : Option Int32 :=
  T_tokenValue_7 s FU (nI 0) (s 27 7)
set_option maxRecDepth 100000 in
theorem ok_T_tokenValue {s : sg} {rv : Int32} (hf : T_tokenValue s = some rv) : mEnds [] 0 49 (0, [some (.ref 27), none, none], [], hp shC s, 0, 0) (some (.int rv), hp shC s, 0, 0) := by
  unfold T_tokenValue at hf
  refine mEnds.stp 3 (pc' := 3) (l' := [some (.ref 27), some (.int (nI 0)), none]) (st' := [.ref 27]) (fun _ => rfl) ?_
  refine t_gi (rfl : mfetch 49 3 = some (3, .getfield 64, 3, 3, 7, 0)) rfl rfl ?_
  refine mEnds.stp 1 (pc' := 7) (l' := [some (.ref 27), some (.int (nI 0)), some (.int (s 27 7))]) (st' := []) (fun _ => rfl) ?_
  refine mEnds.cut (l := [some (.ref 27), some (.int (nI 0)), some (.int (s 27 7))]) ⟨rfl, ⟨rfl, ⟨rfl, trivial⟩⟩⟩ ?_
  exact ok_T_tokenValue_7 FU (nI 0) (s 27 7) _ hf
def T_nextNumber_43 (x2 : Int32) (s : sg) : Option (Int32 × sg) :=
  if s 27 3 = 0 then
    some (x2, s)
  else
    some (nI 0, s)
set_option maxRecDepth 100000 in
theorem ok_T_nextNumber_43 {x2 : Int32} {s : sg} {rv : (Int32 × sg)} (hf : T_nextNumber_43 x2 s = some rv) : mEnds [] 2 48 (43, [some (.ref 27), none, some (.int x2)], [], hp shC s, 0, 0) (some (.int rv.1), hp shC rv.2, 0, 0) := by
  unfold T_nextNumber_43 at hf
  refine mEnds.stp 1 (pc' := 44) (l' := [some (.ref 27), none, some (.int x2)]) (st' := [.ref 27]) (fun _ => rfl) ?_
  refine t_gi (rfl : mfetch 48 44 = some (44, .getfield 29, 3, 3, 3, 0)) rfl rfl ?_
  by_cases hc1 : s 27 3 = 0
  · rw [if_pos hc1] at hf
    refine t_jF (rfl : mfetch 48 47 = some (47, .ifCond .ne 7, 3, 0, 0, 0)) (k_ne' hc1) ?_
    refine mEnds.stp 2 (pc' := 55) (l' := [some (.ref 27), none, some (.int x2)]) (st' := [.int x2]) (fun _ => rfl) ?_
    exact mEnds.rti (Option.some.inj hf) (fun _ => rfl)
  · rw [if_neg hc1] at hf
    refine t_jT (t := 54) (rfl : mfetch 48 47 = some (47, .ifCond .ne 7, 3, 0, 0, 0)) rfl (k_ne hc1) ?_
    refine mEnds.stp 1 (pc' := 55) (l' := [some (.ref 27), none, some (.int x2)]) (st' := [.int (nI 0)]) (fun _ => rfl) ?_
    exact mEnds.rti (Option.some.inj hf) (fun _ => rfl)
def T_nextNumber (x1 : Int32) (s : sg) : Option (Int32 × sg) :=
  (T_nextToken s).bind fun s1 =>
  (T_tokenValue s1).bind fun v2 =>
  if s1 27 6 = nI 2 then
    if x1 < v2 then
      (T_fail (nI 3) (s1 27 7) s1).bind fun s2 =>
      T_nextNumber_43 v2 s2
    else
      T_nextNumber_43 v2 s1
  else
    (T_fail (nI 2) (s1 27 7) s1).bind fun s3 =>
    T_nextNumber_43 v2 s3
set_option maxRecDepth 100000 in
theorem ok_T_nextNumber {x1 : Int32} {s : sg} {rv : (Int32 × sg)} (hf : T_nextNumber x1 s = some rv) : mEnds [] 2 48 (0, [some (.ref 27), some (.int x1), none], [], hp shC s, 0, 0) (some (.int rv.1), hp shC rv.2, 0, 0) := by
  unfold T_nextNumber at hf
  refine mEnds.stp 1 (pc' := 1) (l' := [some (.ref 27), some (.int x1), none]) (st' := [.ref 27]) (fun _ => rfl) ?_
  obtain ⟨s1, hs1, hf⟩ := ob hf
  refine t_cv (as := []) (st := []) (rfl : mfetch 48 1 = some (1, .invokevirtual 48, 3, 50, 0, 0)) rfl rfl rfl rfl rfl (ok_T_nextToken hs1) ?_
  refine mEnds.stp 1 (pc' := 5) (l' := [some (.ref 27), some (.int x1), none]) (st' := [.ref 27]) (fun _ => rfl) ?_
  obtain ⟨v2, hv2, hf⟩ := ob hf
  refine t_cv (as := []) (st := []) (rfl : mfetch 48 5 = some (5, .invokevirtual 146, 3, 49, 0, 0)) rfl rfl rfl rfl rfl ((ok_T_tokenValue hv2).deep 1) ?_
  refine mEnds.stp 2 (pc' := 10) (l' := [some (.ref 27), some (.int x1), some (.int v2)]) (st' := [.ref 27]) (fun _ => rfl) ?_
  refine t_gi (rfl : mfetch 48 10 = some (10, .getfield 51, 3, 3, 6, 0)) rfl rfl ?_
  refine mEnds.stp 1 (pc' := 14) (l' := [some (.ref 27), some (.int x1), some (.int v2)]) (st' := [.int (nI 2), .int (s1 27 6)]) (fun _ => rfl) ?_
  by_cases hc1 : s1 27 6 = nI 2
  · rw [if_pos hc1] at hf
    refine t_cT (t := 29) (rfl : mfetch 48 14 = some (14, .if_icmp .eq 15, 3, 0, 0, 0)) rfl (k_eq hc1) ?_
    refine mEnds.stp 2 (pc' := 31) (l' := [some (.ref 27), some (.int x1), some (.int v2)]) (st' := [.int x1, .int v2]) (fun _ => rfl) ?_
    by_cases hc2 : x1 < v2
    · rw [if_pos hc2] at hf
      refine t_cF (rfl : mfetch 48 31 = some (31, .if_icmp .le 12, 3, 0, 0, 0)) (k_le' hc2) ?_
      refine mEnds.stp 3 (pc' := 37) (l' := [some (.ref 27), some (.int x1), some (.int v2)]) (st' := [.ref 27, .int (nI 3), .ref 27]) (fun _ => rfl) ?_
      refine t_gi (rfl : mfetch 48 37 = some (37, .getfield 64, 3, 3, 7, 0)) rfl rfl ?_
      obtain ⟨s2, hs2, hf⟩ := ob hf
      refine t_cv (as := [.int (nI 3), .int (s1 27 7)]) (st := []) (rfl : mfetch 48 40 = some (40, .invokevirtual 67, 3, 38, 0, 0)) rfl rfl rfl rfl rfl ((ok_T_fail hs2).deep 1) ?_
      refine mEnds.cut (l := [some (.ref 27), none, some (.int v2)]) ⟨rfl, ⟨rfl, trivial⟩⟩ ?_
      exact ok_T_nextNumber_43 hf
    · rw [if_neg hc2] at hf
      refine t_cT (t := 43) (rfl : mfetch 48 31 = some (31, .if_icmp .le 12, 3, 0, 0, 0)) rfl (k_le hc2) ?_
      refine mEnds.cut (l := [some (.ref 27), none, some (.int v2)]) ⟨rfl, ⟨rfl, trivial⟩⟩ ?_
      exact ok_T_nextNumber_43 hf
  · rw [if_neg hc1] at hf
    refine t_cF (rfl : mfetch 48 14 = some (14, .if_icmp .eq 15, 3, 0, 0, 0)) (k_eq' hc1) ?_
    refine mEnds.stp 3 (pc' := 20) (l' := [some (.ref 27), some (.int x1), some (.int v2)]) (st' := [.ref 27, .int (nI 2), .ref 27]) (fun _ => rfl) ?_
    refine t_gi (rfl : mfetch 48 20 = some (20, .getfield 64, 3, 3, 7, 0)) rfl rfl ?_
    obtain ⟨s3, hs3, hf⟩ := ob hf
    refine t_cv (as := [.int (nI 2), .int (s1 27 7)]) (st := []) (rfl : mfetch 48 23 = some (23, .invokevirtual 67, 3, 38, 0, 0)) rfl rfl rfl rfl rfl ((ok_T_fail hs3).deep 1) ?_
    refine mEnds.stp 1 (pc' := 43) (l' := [some (.ref 27), some (.int x1), some (.int v2)]) (st' := []) (fun _ => rfl) ?_
    refine mEnds.cut (l := [some (.ref 27), none, some (.int v2)]) ⟨rfl, ⟨rfl, trivial⟩⟩ ?_
    exact ok_T_nextNumber_43 hf
def T_tellRoom (s : sg) : Option sg :=
  if s 29 0 < nI 6 then
    (some (up s 29 0 ((s 29 0) + (nI 1)))).bind fun s1 =>
    (T_nextNumber (nI 99) s1).bind fun v1 =>
    (midx (s 29 0) 6).bind fun j1 =>
    (some (up v1.2 30 j1 v1.1)).bind fun s2 =>
    (T_nextNumber (nI 9) s2).bind fun v2 =>
    (midx (s 29 0) 6).bind fun j2 =>
    (some (up v2.2 31 j2 v2.1)).bind fun s3 =>
    (T_nextNumber (nI 9) s3).bind fun v3 =>
    (midx (s 29 0) 6).bind fun j3 =>
    (some (up v3.2 32 j3 v3.1)).bind fun s4 =>
    (T_endLine s4).bind fun s5 =>
    some s5
  else
    (T_fail (nI 5) (s 27 7) s).bind fun s6 =>
    some s6
set_option maxRecDepth 100000 in
theorem ok_T_tellRoom {s : sg} {rv : sg} (hf : T_tellRoom s = some rv) : mEnds [] 3 42 (0, [some (.ref 27), none], [], hp shC s, 0, 0) (none, hp shC rv, 0, 0) := by
  unfold T_tellRoom at hf
  refine mEnds.stp 1 (pc' := 1) (l' := [some (.ref 27), none]) (st' := [.ref 27]) (fun _ => rfl) ?_
  refine t_gr (rfl : mfetch 42 1 = some (1, .getfield 18, 3, 3, 2, 0)) rfl rfl ?_
  refine t_gi (rfl : mfetch 42 4 = some (4, .getfield 110, 3, 1, 0, 0)) rfl rfl ?_
  refine mEnds.stp 3 (pc' := 11) (l' := [some (.ref 27), some (.int (s 29 0))]) (st' := [.int (nI 6), .int (s 29 0)]) (fun _ => rfl) ?_
  by_cases hc1 : s 29 0 < nI 6
  · rw [if_pos hc1] at hf
    refine t_cT (t := 24) (rfl : mfetch 42 11 = some (11, .if_icmp .lt 13, 3, 0, 0, 0)) rfl (k_lt hc1) ?_
    refine mEnds.stp 1 (pc' := 25) (l' := [some (.ref 27), some (.int (s 29 0))]) (st' := [.ref 27]) (fun _ => rfl) ?_
    refine t_gr (rfl : mfetch 42 25 = some (25, .getfield 18, 3, 3, 2, 0)) rfl rfl ?_
    refine mEnds.stp 1 (pc' := 29) (l' := [some (.ref 27), some (.int (s 29 0))]) (st' := [.ref 29, .ref 29]) (fun _ => rfl) ?_
    refine t_gi (rfl : mfetch 42 29 = some (29, .getfield 110, 3, 1, 0, 0)) rfl rfl ?_
    refine mEnds.stp 2 (pc' := 34) (l' := [some (.ref 27), some (.int (s 29 0))]) (st' := [.int ((s 29 0) + (nI 1)), .ref 29]) (fun _ => rfl) ?_
    obtain ⟨s1, hs1, hf⟩ := ob hf
    refine t_pi (rfl : mfetch 42 34 = some (34, .putfield 110, 3, 1, 0, 0)) rfl rfl rfl rfl hs1 ?_
    refine mEnds.stp 1 (pc' := 38) (l' := [some (.ref 27), some (.int (s 29 0))]) (st' := [.ref 27]) (fun _ => rfl) ?_
    refine t_gr (rfl : mfetch 42 38 = some (38, .getfield 18, 3, 3, 2, 0)) rfl rfl ?_
    refine t_gr (rfl : mfetch 42 41 = some (41, .getfield 113, 3, 1, 5, 0)) rfl rfl ?_
    refine mEnds.stp 3 (pc' := 48) (l' := [some (.ref 27), some (.int (s 29 0))]) (st' := [.int (nI 99), .ref 27, .int (s 29 0), .ref 30]) (fun _ => rfl) ?_
    obtain ⟨v1, hv1, hf⟩ := ob hf
    refine t_cv (as := [.int (nI 99)]) (st := [.int (s 29 0), .ref 30]) (rfl : mfetch 42 48 = some (48, .invokevirtual 117, 3, 48, 0, 0)) rfl rfl rfl rfl rfl (ok_T_nextNumber hv1) ?_
    obtain ⟨j1, hj1, hf⟩ := ob hf
    obtain ⟨s2, hs2, hf⟩ := ob hf
    refine t_is (rfl : mfetch 42 51 = some (51, .iastore, 1, 0, 0, 0)) rfl rfl hj1 hs2 ?_
    refine mEnds.stp 1 (pc' := 53) (l' := [some (.ref 27), some (.int (s 29 0))]) (st' := [.ref 27]) (fun _ => rfl) ?_
    refine t_gr (rfl : mfetch 42 53 = some (53, .getfield 18, 3, 3, 2, 0)) rfl rfl ?_
    refine t_gr (rfl : mfetch 42 56 = some (56, .getfield 121, 3, 1, 6, 0)) rfl rfl ?_
    refine mEnds.stp 3 (pc' := 63) (l' := [some (.ref 27), some (.int (s 29 0))]) (st' := [.int (nI 9), .ref 27, .int (s 29 0), .ref 31]) (fun _ => rfl) ?_
    obtain ⟨v2, hv2, hf⟩ := ob hf
    refine t_cv (as := [.int (nI 9)]) (st := [.int (s 29 0), .ref 31]) (rfl : mfetch 42 63 = some (63, .invokevirtual 117, 3, 48, 0, 0)) rfl rfl rfl rfl rfl (ok_T_nextNumber hv2) ?_
    obtain ⟨j2, hj2, hf⟩ := ob hf
    obtain ⟨s3, hs3, hf⟩ := ob hf
    refine t_is (rfl : mfetch 42 66 = some (66, .iastore, 1, 0, 0, 0)) rfl rfl hj2 hs3 ?_
    refine mEnds.stp 1 (pc' := 68) (l' := [some (.ref 27), some (.int (s 29 0))]) (st' := [.ref 27]) (fun _ => rfl) ?_
    refine t_gr (rfl : mfetch 42 68 = some (68, .getfield 18, 3, 3, 2, 0)) rfl rfl ?_
    refine t_gr (rfl : mfetch 42 71 = some (71, .getfield 124, 3, 1, 7, 0)) rfl rfl ?_
    refine mEnds.stp 3 (pc' := 78) (l' := [some (.ref 27), some (.int (s 29 0))]) (st' := [.int (nI 9), .ref 27, .int (s 29 0), .ref 32]) (fun _ => rfl) ?_
    obtain ⟨v3, hv3, hf⟩ := ob hf
    refine t_cv (as := [.int (nI 9)]) (st := [.int (s 29 0), .ref 32]) (rfl : mfetch 42 78 = some (78, .invokevirtual 117, 3, 48, 0, 0)) rfl rfl rfl rfl rfl (ok_T_nextNumber hv3) ?_
    obtain ⟨j3, hj3, hf⟩ := ob hf
    obtain ⟨s4, hs4, hf⟩ := ob hf
    refine t_is (rfl : mfetch 42 81 = some (81, .iastore, 1, 0, 0, 0)) rfl rfl hj3 hs4 ?_
    refine mEnds.stp 1 (pc' := 83) (l' := [some (.ref 27), some (.int (s 29 0))]) (st' := [.ref 27]) (fun _ => rfl) ?_
    obtain ⟨s5, hs5, hf⟩ := ob hf
    refine t_cv (as := []) (st := []) (rfl : mfetch 42 83 = some (83, .invokevirtual 127, 3, 47, 0, 0)) rfl rfl rfl rfl rfl (ok_T_endLine hs5) ?_
    cases hf; exact mEnds.rt (fun _ => rfl)
  · rw [if_neg hc1] at hf
    refine t_cF (rfl : mfetch 42 11 = some (11, .if_icmp .lt 13, 3, 0, 0, 0)) (k_lt' hc1) ?_
    refine mEnds.stp 3 (pc' := 17) (l' := [some (.ref 27), some (.int (s 29 0))]) (st' := [.ref 27, .int (nI 5), .ref 27]) (fun _ => rfl) ?_
    refine t_gi (rfl : mfetch 42 17 = some (17, .getfield 64, 3, 3, 7, 0)) rfl rfl ?_
    obtain ⟨s6, hs6, hf⟩ := ob hf
    refine t_cv (as := [.int (nI 5), .int (s 27 7)]) (st := []) (rfl : mfetch 42 20 = some (20, .invokevirtual 67, 3, 38, 0, 0)) rfl rfl rfl rfl rfl ((ok_T_fail hs6).deep 2) ?_
    cases hf; exact mEnds.rt (fun _ => rfl)
def T_tellTongue_26 (x1 : Int32) (x2 : Int32) (s : sg) : Option sg :=
  (midx x2 6).bind fun j1 =>
  (some (up s 33 j1 x1)).bind fun s1 =>
  (T_nextNumber (nI 99) s1).bind fun v1 =>
  (midx x2 6).bind fun j2 =>
  (some (up v1.2 34 j2 v1.1)).bind fun s2 =>
  (T_endLine s2).bind fun s3 =>
  some s3
set_option maxRecDepth 100000 in
theorem ok_T_tellTongue_26 {x1 : Int32} {x2 : Int32} {s : sg} {rv : sg} (hf : T_tellTongue_26 x1 x2 s = some rv) : mEnds [] 3 43 (26, [some (.ref 27), some (.int x1), some (.int x2)], [], hp shC s, 0, 0) (none, hp shC rv, 0, 0) := by
  unfold T_tellTongue_26 at hf
  refine mEnds.stp 1 (pc' := 27) (l' := [some (.ref 27), some (.int x1), some (.int x2)]) (st' := [.ref 27]) (fun _ => rfl) ?_
  refine t_gr (rfl : mfetch 43 27 = some (27, .getfield 18, 3, 3, 2, 0)) rfl rfl ?_
  refine t_gr (rfl : mfetch 43 30 = some (30, .getfield 134, 3, 1, 8, 0)) rfl rfl ?_
  refine mEnds.stp 2 (pc' := 35) (l' := [some (.ref 27), some (.int x1), some (.int x2)]) (st' := [.int x1, .int x2, .ref 33]) (fun _ => rfl) ?_
  obtain ⟨j1, hj1, hf⟩ := ob hf
  obtain ⟨s1, hs1, hf⟩ := ob hf
  refine t_is (rfl : mfetch 43 35 = some (35, .iastore, 1, 0, 0, 0)) rfl rfl hj1 hs1 ?_
  refine mEnds.stp 1 (pc' := 37) (l' := [some (.ref 27), some (.int x1), some (.int x2)]) (st' := [.ref 27]) (fun _ => rfl) ?_
  refine t_gr (rfl : mfetch 43 37 = some (37, .getfield 18, 3, 3, 2, 0)) rfl rfl ?_
  refine t_gr (rfl : mfetch 43 40 = some (40, .getfield 137, 3, 1, 9, 0)) rfl rfl ?_
  refine mEnds.stp 3 (pc' := 47) (l' := [some (.ref 27), some (.int x1), some (.int x2)]) (st' := [.int (nI 99), .ref 27, .int x2, .ref 34]) (fun _ => rfl) ?_
  obtain ⟨v1, hv1, hf⟩ := ob hf
  refine t_cv (as := [.int (nI 99)]) (st := [.int x2, .ref 34]) (rfl : mfetch 43 47 = some (47, .invokevirtual 117, 3, 48, 0, 0)) rfl rfl rfl rfl rfl (ok_T_nextNumber hv1) ?_
  obtain ⟨j2, hj2, hf⟩ := ob hf
  obtain ⟨s2, hs2, hf⟩ := ob hf
  refine t_is (rfl : mfetch 43 50 = some (50, .iastore, 1, 0, 0, 0)) rfl rfl hj2 hs2 ?_
  refine mEnds.stp 1 (pc' := 52) (l' := [some (.ref 27), some (.int x1), some (.int x2)]) (st' := [.ref 27]) (fun _ => rfl) ?_
  obtain ⟨s3, hs3, hf⟩ := ob hf
  refine t_cv (as := []) (st := []) (rfl : mfetch 43 52 = some (52, .invokevirtual 127, 3, 47, 0, 0)) rfl rfl rfl rfl rfl (ok_T_endLine hs3) ?_
  cases hf; exact mEnds.rt (fun _ => rfl)
def T_tellTongue (x1 : Int32) (s : sg) : Option sg :=
  (T_nextNumber (nI 5) s).bind fun v1 =>
  (H_hasTongue 29 v1.1 v1.2).bind fun v2 =>
  if v2 = 0 then
    T_tellTongue_26 x1 v1.1 v1.2
  else
    (T_fail (nI 4) (v1.2 27 7) v1.2).bind fun s1 =>
    T_tellTongue_26 x1 v1.1 s1
set_option maxRecDepth 100000 in
theorem ok_T_tellTongue {x1 : Int32} {s : sg} {rv : sg} (hf : T_tellTongue x1 s = some rv) : mEnds [] 3 43 (0, [some (.ref 27), some (.int x1), none], [], hp shC s, 0, 0) (none, hp shC rv, 0, 0) := by
  unfold T_tellTongue at hf
  refine mEnds.stp 2 (pc' := 2) (l' := [some (.ref 27), some (.int x1), none]) (st' := [.int (nI 5), .ref 27]) (fun _ => rfl) ?_
  obtain ⟨v1, hv1, hf⟩ := ob hf
  refine t_cv (as := [.int (nI 5)]) (st := []) (rfl : mfetch 43 2 = some (2, .invokevirtual 117, 3, 48, 0, 0)) rfl rfl rfl rfl rfl (ok_T_nextNumber hv1) ?_
  refine mEnds.stp 2 (pc' := 7) (l' := [some (.ref 27), some (.int x1), some (.int v1.1)]) (st' := [.ref 27]) (fun _ => rfl) ?_
  refine t_gr (rfl : mfetch 43 7 = some (7, .getfield 18, 3, 3, 2, 0)) rfl rfl ?_
  refine mEnds.stp 1 (pc' := 11) (l' := [some (.ref 27), some (.int x1), some (.int v1.1)]) (st' := [.int v1.1, .ref 29]) (fun _ => rfl) ?_
  obtain ⟨v2, hv2, hf⟩ := ob hf
  refine t_cv (as := [.int v1.1]) (st := []) (rfl : mfetch 43 11 = some (11, .invokevirtual 130, 3, 10, 0, 0)) rfl rfl rfl rfl rfl ((ok_H_hasTongue isH_29 hv2).deep 2) ?_
  by_cases hc1 : v2 = 0
  · rw [if_pos hc1] at hf
    refine t_jT (t := 26) (rfl : mfetch 43 14 = some (14, .ifCond .eq 12, 3, 0, 0, 0)) rfl (k_eq hc1) ?_
    refine mEnds.cut (l := [some (.ref 27), some (.int x1), some (.int v1.1)]) ⟨rfl, ⟨rfl, ⟨rfl, trivial⟩⟩⟩ ?_
    exact ok_T_tellTongue_26 hf
  · rw [if_neg hc1] at hf
    refine t_jF (rfl : mfetch 43 14 = some (14, .ifCond .eq 12, 3, 0, 0, 0)) (k_eq' hc1) ?_
    refine mEnds.stp 3 (pc' := 20) (l' := [some (.ref 27), some (.int x1), some (.int v1.1)]) (st' := [.ref 27, .int (nI 4), .ref 27]) (fun _ => rfl) ?_
    refine t_gi (rfl : mfetch 43 20 = some (20, .getfield 64, 3, 3, 7, 0)) rfl rfl ?_
    obtain ⟨s1, hs1, hf⟩ := ob hf
    refine t_cv (as := [.int (nI 4), .int (v1.2 27 7)]) (st := []) (rfl : mfetch 43 23 = some (23, .invokevirtual 67, 3, 38, 0, 0)) rfl rfl rfl rfl rfl ((ok_T_fail hs1).deep 2) ?_
    refine mEnds.cut (l := [some (.ref 27), some (.int x1), some (.int v1.1)]) ⟨rfl, ⟨rfl, ⟨rfl, trivial⟩⟩⟩ ?_
    exact ok_T_tellTongue_26 hf
def T_tellWall_27 (x1 : Int32) (s : sg) : Option sg :=
  (some (up s 27 10 ((s 27 10) ||| ((nI 1) <<< (x1 &&& 31))))).bind fun s1 =>
  (T_nextNumber (nI 9) s1).bind fun v1 =>
  (midx x1 5).bind fun j1 =>
  (some (up v1.2 35 j1 v1.1)).bind fun s2 =>
  (T_endLine s2).bind fun s3 =>
  some s3
set_option maxRecDepth 100000 in
theorem ok_T_tellWall_27 {x1 : Int32} {s : sg} {rv : sg} (hf : T_tellWall_27 x1 s = some rv) : mEnds [] 3 44 (27, [some (.ref 27), some (.int x1)], [], hp shC s, 0, 0) (none, hp shC rv, 0, 0) := by
  unfold T_tellWall_27 at hf
  refine mEnds.stp 2 (pc' := 29) (l' := [some (.ref 27), some (.int x1)]) (st' := [.ref 27, .ref 27]) (fun _ => rfl) ?_
  refine t_gi (rfl : mfetch 44 29 = some (29, .getfield 45, 3, 3, 10, 0)) rfl rfl ?_
  refine mEnds.stp 4 (pc' := 36) (l' := [some (.ref 27), some (.int x1)]) (st' := [.int ((s 27 10) ||| ((nI 1) <<< (x1 &&& 31))), .ref 27]) (fun _ => rfl) ?_
  obtain ⟨s1, hs1, hf⟩ := ob hf
  refine t_pi (rfl : mfetch 44 36 = some (36, .putfield 45, 3, 3, 10, 0)) rfl rfl rfl rfl hs1 ?_
  refine mEnds.stp 1 (pc' := 40) (l' := [some (.ref 27), some (.int x1)]) (st' := [.ref 27]) (fun _ => rfl) ?_
  refine t_gr (rfl : mfetch 44 40 = some (40, .getfield 18, 3, 3, 2, 0)) rfl rfl ?_
  refine t_gr (rfl : mfetch 44 43 = some (43, .getfield 140, 3, 1, 10, 0)) rfl rfl ?_
  refine mEnds.stp 3 (pc' := 50) (l' := [some (.ref 27), some (.int x1)]) (st' := [.int (nI 9), .ref 27, .int x1, .ref 35]) (fun _ => rfl) ?_
  obtain ⟨v1, hv1, hf⟩ := ob hf
  refine t_cv (as := [.int (nI 9)]) (st := [.int x1, .ref 35]) (rfl : mfetch 44 50 = some (50, .invokevirtual 117, 3, 48, 0, 0)) rfl rfl rfl rfl rfl (ok_T_nextNumber hv1) ?_
  obtain ⟨j1, hj1, hf⟩ := ob hf
  obtain ⟨s2, hs2, hf⟩ := ob hf
  refine t_is (rfl : mfetch 44 53 = some (53, .iastore, 1, 0, 0, 0)) rfl rfl hj1 hs2 ?_
  refine mEnds.stp 1 (pc' := 55) (l' := [some (.ref 27), some (.int x1)]) (st' := [.ref 27]) (fun _ => rfl) ?_
  obtain ⟨s3, hs3, hf⟩ := ob hf
  refine t_cv (as := []) (st := []) (rfl : mfetch 44 55 = some (55, .invokevirtual 127, 3, 47, 0, 0)) rfl rfl rfl rfl rfl (ok_T_endLine hs3) ?_
  cases hf; exact mEnds.rt (fun _ => rfl)
def T_tellWall (s : sg) : Option sg :=
  (T_nextNumber (nI 4) s).bind fun v1 =>
  if ((v1.2 27 10) >>> (v1.1 &&& 31)) &&& (nI 1) = nI 1 then
    (T_fail (nI 4) (v1.2 27 7) v1.2).bind fun s1 =>
    T_tellWall_27 v1.1 s1
  else
    T_tellWall_27 v1.1 v1.2
set_option maxRecDepth 100000 in
theorem ok_T_tellWall {s : sg} {rv : sg} (hf : T_tellWall s = some rv) : mEnds [] 3 44 (0, [some (.ref 27), none], [], hp shC s, 0, 0) (none, hp shC rv, 0, 0) := by
  unfold T_tellWall at hf
  refine mEnds.stp 2 (pc' := 2) (l' := [some (.ref 27), none]) (st' := [.int (nI 4), .ref 27]) (fun _ => rfl) ?_
  obtain ⟨v1, hv1, hf⟩ := ob hf
  refine t_cv (as := [.int (nI 4)]) (st := []) (rfl : mfetch 44 2 = some (2, .invokevirtual 117, 3, 48, 0, 0)) rfl rfl rfl rfl rfl (ok_T_nextNumber hv1) ?_
  refine mEnds.stp 2 (pc' := 7) (l' := [some (.ref 27), some (.int v1.1)]) (st' := [.ref 27]) (fun _ => rfl) ?_
  refine t_gi (rfl : mfetch 44 7 = some (7, .getfield 45, 3, 3, 10, 0)) rfl rfl ?_
  refine mEnds.stp 5 (pc' := 15) (l' := [some (.ref 27), some (.int v1.1)]) (st' := [.int (nI 1), .int (((v1.2 27 10) >>> (v1.1 &&& 31)) &&& (nI 1))]) (fun _ => rfl) ?_
  by_cases hc1 : ((v1.2 27 10) >>> (v1.1 &&& 31)) &&& (nI 1) = nI 1
  · rw [if_pos hc1] at hf
    refine t_cF (rfl : mfetch 44 15 = some (15, .if_icmp .ne 12, 3, 0, 0, 0)) (k_ne' hc1) ?_
    refine mEnds.stp 3 (pc' := 21) (l' := [some (.ref 27), some (.int v1.1)]) (st' := [.ref 27, .int (nI 4), .ref 27]) (fun _ => rfl) ?_
    refine t_gi (rfl : mfetch 44 21 = some (21, .getfield 64, 3, 3, 7, 0)) rfl rfl ?_
    obtain ⟨s1, hs1, hf⟩ := ob hf
    refine t_cv (as := [.int (nI 4), .int (v1.2 27 7)]) (st := []) (rfl : mfetch 44 24 = some (24, .invokevirtual 67, 3, 38, 0, 0)) rfl rfl rfl rfl rfl ((ok_T_fail hs1).deep 2) ?_
    refine mEnds.cut (l := [some (.ref 27), some (.int v1.1)]) ⟨rfl, ⟨rfl, trivial⟩⟩ ?_
    exact ok_T_tellWall_27 hf
  · rw [if_neg hc1] at hf
    refine t_cT (t := 27) (rfl : mfetch 44 15 = some (15, .if_icmp .ne 12, 3, 0, 0, 0)) rfl (k_ne hc1) ?_
    refine mEnds.cut (l := [some (.ref 27), some (.int v1.1)]) ⟨rfl, ⟨rfl, trivial⟩⟩ ?_
    exact ok_T_tellWall_27 hf
def T_refuseNinth_37 (x1 : Int32) (s : sg) : Option sg :=
  (T_fail (nI 5) x1 s).bind fun s1 =>
  some s1
set_option maxRecDepth 100000 in
theorem ok_T_refuseNinth_37 {x1 : Int32} {s : sg} {rv : sg} (hf : T_refuseNinth_37 x1 s = some rv) : mEnds [] 1 46 (37, [some (.ref 27), some (.int x1), none], [], hp shC s, 0, 0) (none, hp shC rv, 0, 0) := by
  unfold T_refuseNinth_37 at hf
  refine mEnds.stp 3 (pc' := 40) (l' := [some (.ref 27), some (.int x1), none]) (st' := [.int x1, .int (nI 5), .ref 27]) (fun _ => rfl) ?_
  obtain ⟨s1, hs1, hf⟩ := ob hf
  refine t_cv (as := [.int (nI 5), .int x1]) (st := []) (rfl : mfetch 46 40 = some (40, .invokevirtual 67, 3, 38, 0, 0)) rfl rfl rfl rfl rfl (ok_T_fail hs1) ?_
  cases hf; exact mEnds.rt (fun _ => rfl)
def T_refuseNinth_26 (x1 : Int32) (y0 : Int32) (s : sg) : Option sg :=
  if y0 = nI 2 then
    T_refuseNinth_37 x1 s
  else
    if y0 = nI 1 then
      T_refuseNinth_37 x1 s
    else
      some s
set_option maxRecDepth 100000 in
theorem ok_T_refuseNinth_26 {x1 : Int32} {y0 : Int32} {s : sg} {rv : sg} (hf : T_refuseNinth_26 x1 y0 s = some rv) : mEnds [] 1 46 (26, [some (.ref 27), some (.int x1), none], [.int y0], hp shC s, 0, 0) (none, hp shC rv, 0, 0) := by
  unfold T_refuseNinth_26 at hf
  refine mEnds.stp 3 (pc' := 29) (l' := [some (.ref 27), some (.int x1), some (.int y0)]) (st' := [.int (nI 2), .int y0]) (fun _ => rfl) ?_
  by_cases hc1 : y0 = nI 2
  · rw [if_pos hc1] at hf
    refine t_cT (t := 37) (rfl : mfetch 46 29 = some (29, .if_icmp .eq 8, 3, 0, 0, 0)) rfl (k_eq hc1) ?_
    refine mEnds.cut (l := [some (.ref 27), some (.int x1), none]) ⟨rfl, ⟨rfl, trivial⟩⟩ ?_
    exact ok_T_refuseNinth_37 hf
  · rw [if_neg hc1] at hf
    refine t_cF (rfl : mfetch 46 29 = some (29, .if_icmp .eq 8, 3, 0, 0, 0)) (k_eq' hc1) ?_
    refine mEnds.stp 2 (pc' := 34) (l' := [some (.ref 27), some (.int x1), some (.int y0)]) (st' := [.int (nI 1), .int y0]) (fun _ => rfl) ?_
    by_cases hc2 : y0 = nI 1
    · rw [if_pos hc2] at hf
      refine t_cF (rfl : mfetch 46 34 = some (34, .if_icmp .ne 9, 3, 0, 0, 0)) (k_ne' hc2) ?_
      refine mEnds.cut (l := [some (.ref 27), some (.int x1), none]) ⟨rfl, ⟨rfl, trivial⟩⟩ ?_
      exact ok_T_refuseNinth_37 hf
    · rw [if_neg hc2] at hf
      refine t_cT (t := 43) (rfl : mfetch 46 34 = some (34, .if_icmp .ne 9, 3, 0, 0, 0)) rfl (k_ne hc2) ?_
      cases hf; exact mEnds.rt (fun _ => rfl)
def T_refuseNinth (s : sg) : Option sg :=
  (T_placeOfNext s).bind fun v1 =>
  if v1 < s 27 1 then
    (midx v1 160).bind fun j1 =>
    (T_sortOf (s 28 j1) s).bind fun v2 =>
    T_refuseNinth_26 v1 v2 s
  else
    T_refuseNinth_26 v1 (nI 0) s
set_option maxRecDepth 100000 in
theorem ok_T_refuseNinth {s : sg} {rv : sg} (hf : T_refuseNinth s = some rv) : mEnds [] 1 46 (0, [some (.ref 27), none, none], [], hp shC s, 0, 0) (none, hp shC rv, 0, 0) := by
  unfold T_refuseNinth at hf
  refine mEnds.stp 1 (pc' := 1) (l' := [some (.ref 27), none, none]) (st' := [.ref 27]) (fun _ => rfl) ?_
  obtain ⟨v1, hv1, hf⟩ := ob hf
  refine t_cv (as := []) (st := []) (rfl : mfetch 46 1 = some (1, .invokevirtual 152, 3, 51, 0, 0)) rfl rfl rfl rfl rfl (ok_T_placeOfNext hv1) ?_
  refine mEnds.stp 3 (pc' := 7) (l' := [some (.ref 27), some (.int v1), none]) (st' := [.ref 27, .int v1]) (fun _ => rfl) ?_
  refine t_gi (rfl : mfetch 46 7 = some (7, .getfield 22, 3, 3, 1, 0)) rfl rfl ?_
  by_cases hc1 : v1 < s 27 1
  · rw [if_pos hc1] at hf
    refine t_cF (rfl : mfetch 46 10 = some (10, .if_icmp .ge 15, 3, 0, 0, 0)) (k_ge' hc1) ?_
    refine mEnds.stp 1 (pc' := 14) (l' := [some (.ref 27), some (.int v1), none]) (st' := [.ref 27]) (fun _ => rfl) ?_
    refine t_gr (rfl : mfetch 46 14 = some (14, .getfield 11, 3, 3, 0, 0)) rfl rfl ?_
    refine mEnds.stp 1 (pc' := 18) (l' := [some (.ref 27), some (.int v1), none]) (st' := [.int v1, .ref 28]) (fun _ => rfl) ?_
    obtain ⟨j1, hj1, hf⟩ := ob hf
    refine t_ba (rfl : mfetch 46 18 = some (18, .baload, 1, 0, 0, 0)) rfl rfl rfl hj1 ?_
    obtain ⟨v2, hv2, hf⟩ := ob hf
    refine t_cs (as := [.int (s 28 j1)]) (st := []) (Or.inl rfl) (rfl : mfetch 46 19 = some (19, .invokestatic 155, 3, 52, 0, 0)) rfl rfl rfl (ok_T_sortOf hv2) ?_
    refine mEnds.stp 1 (pc' := 26) (l' := [some (.ref 27), some (.int v1), none]) (st' := [.int v2]) (fun _ => rfl) ?_
    refine mEnds.cut (l := [some (.ref 27), some (.int v1), none]) ⟨rfl, ⟨rfl, trivial⟩⟩ ?_
    exact ok_T_refuseNinth_26 hf
  · rw [if_neg hc1] at hf
    refine t_cT (t := 25) (rfl : mfetch 46 10 = some (10, .if_icmp .ge 15, 3, 0, 0, 0)) rfl (k_ge hc1) ?_
    refine mEnds.stp 1 (pc' := 26) (l' := [some (.ref 27), some (.int v1), none]) (st' := [.int (nI 0)]) (fun _ => rfl) ?_
    refine mEnds.cut (l := [some (.ref 27), some (.int v1), none]) ⟨rfl, ⟨rfl, trivial⟩⟩ ?_
    exact ok_T_refuseNinth_26 hf
end Q30c
section Q30d
def T_tellOut_67 (k27 : Int32 → sg → Option sg) (x1 : Int32) (s : sg) : Option sg :=
  (T_nextToken s).bind fun s1 =>
  k27 x1 s1
set_option maxRecDepth 100000 in
theorem ok_T_tellOut_67 {k27 : Int32 → sg → Option sg} {x1 : Int32} {s : sg} {rv : sg} (hk27 : ∀ (x1 : Int32) (s : sg) (rv : sg), k27 x1 s = some rv → mEnds [] 2 45 (27, [some (.ref 27), some (.int x1)], [], hp shC s, 0, 0) (none, hp shC rv, 0, 0)) (hf : T_tellOut_67 k27 x1 s = some rv) : mEnds [] 2 45 (67, [some (.ref 27), some (.int x1)], [], hp shC s, 0, 0) (none, hp shC rv, 0, 0) := by
  unfold T_tellOut_67 at hf
  refine mEnds.stp 1 (pc' := 68) (l' := [some (.ref 27), some (.int x1)]) (st' := [.ref 27]) (fun _ => rfl) ?_
  obtain ⟨s1, hs1, hf⟩ := ob hf
  refine t_cv (as := []) (st := []) (rfl : mfetch 45 68 = some (68, .invokevirtual 48, 3, 50, 0, 0)) rfl rfl rfl rfl rfl (ok_T_nextToken hs1) ?_
  refine mEnds.stp 1 (pc' := 27) (l' := [some (.ref 27), some (.int x1)]) (st' := []) (fun _ => rfl) ?_
  refine mEnds.cut (l := [some (.ref 27), some (.int x1)]) ⟨rfl, ⟨rfl, trivial⟩⟩ ?_
  exact hk27 x1 s1 _ hf
def T_tellOut_74 (s : sg) : Option sg :=
  if s 27 6 = nI 3 then
    some s
  else
    (T_fail (nI 2) (s 27 7) s).bind fun s1 =>
    some s1
set_option maxRecDepth 100000 in
theorem ok_T_tellOut_74 {s : sg} {rv : sg} (hf : T_tellOut_74 s = some rv) : mEnds [] 2 45 (74, [some (.ref 27), none], [], hp shC s, 0, 0) (none, hp shC rv, 0, 0) := by
  unfold T_tellOut_74 at hf
  refine mEnds.stp 1 (pc' := 75) (l' := [some (.ref 27), none]) (st' := [.ref 27]) (fun _ => rfl) ?_
  refine t_gi (rfl : mfetch 45 75 = some (75, .getfield 51, 3, 3, 6, 0)) rfl rfl ?_
  refine mEnds.stp 1 (pc' := 79) (l' := [some (.ref 27), none]) (st' := [.int (nI 3), .int (s 27 6)]) (fun _ => rfl) ?_
  by_cases hc1 : s 27 6 = nI 3
  · rw [if_pos hc1] at hf
    refine t_cT (t := 91) (rfl : mfetch 45 79 = some (79, .if_icmp .eq 12, 3, 0, 0, 0)) rfl (k_eq hc1) ?_
    cases hf; exact mEnds.rt (fun _ => rfl)
  · rw [if_neg hc1] at hf
    refine t_cF (rfl : mfetch 45 79 = some (79, .if_icmp .eq 12, 3, 0, 0, 0)) (k_eq' hc1) ?_
    refine mEnds.stp 3 (pc' := 85) (l' := [some (.ref 27), none]) (st' := [.ref 27, .int (nI 2), .ref 27]) (fun _ => rfl) ?_
    refine t_gi (rfl : mfetch 45 85 = some (85, .getfield 64, 3, 3, 7, 0)) rfl rfl ?_
    obtain ⟨s1, hs1, hf⟩ := ob hf
    refine t_cv (as := [.int (nI 2), .int (s 27 7)]) (st := []) (rfl : mfetch 45 88 = some (88, .invokevirtual 67, 3, 38, 0, 0)) rfl rfl rfl rfl rfl ((ok_T_fail hs1).deep 1) ?_
    cases hf; exact mEnds.rt (fun _ => rfl)
def T_tellOut_27 : Nat → Int32 → sg → Option sg
  | 0, _, _ => none
  | fu + 1, x1, s =>
  if x1 < nI 8 then
    if s 27 6 = nI 2 then
      (T_tokenValue s).bind fun v1 =>
      (midx x1 8).bind fun j1 =>
      (some (up s 36 j1 v1)).bind fun s1 =>
      if x1 + (nI 1) = nI 8 then
        (T_refuseNinth s1).bind fun s2 =>
        T_tellOut_67 (T_tellOut_27 fu) (x1 + (nI 1)) s2
      else
        T_tellOut_67 (T_tellOut_27 fu) (x1 + (nI 1)) s1
    else
      T_tellOut_74 s
  else
    T_tellOut_74 s
set_option maxRecDepth 100000 in
theorem ok_T_tellOut_27 : ∀ (fu : Nat) (x1 : Int32) (s : sg) (rv : sg), T_tellOut_27 fu x1 s = some rv → mEnds [] 2 45 (27, [some (.ref 27), some (.int x1)], [], hp shC s, 0, 0) (none, hp shC rv, 0, 0)
  | 0, _, _, _, hf => by cases hf
  | fu + 1, x1, s, rv, hf => by
    rw [T_tellOut_27] at hf
    refine mEnds.stp 2 (pc' := 30) (l' := [some (.ref 27), some (.int x1)]) (st' := [.int (nI 8), .int x1]) (fun _ => rfl) ?_
    by_cases hc1 : x1 < nI 8
    · rw [if_pos hc1] at hf
      refine t_cF (rfl : mfetch 45 30 = some (30, .if_icmp .ge 44, 3, 0, 0, 0)) (k_ge' hc1) ?_
      refine mEnds.stp 1 (pc' := 34) (l' := [some (.ref 27), some (.int x1)]) (st' := [.ref 27]) (fun _ => rfl) ?_
      refine t_gi (rfl : mfetch 45 34 = some (34, .getfield 51, 3, 3, 6, 0)) rfl rfl ?_
      refine mEnds.stp 1 (pc' := 38) (l' := [some (.ref 27), some (.int x1)]) (st' := [.int (nI 2), .int (s 27 6)]) (fun _ => rfl) ?_
      by_cases hc2 : s 27 6 = nI 2
      · rw [if_pos hc2] at hf
        refine t_cF (rfl : mfetch 45 38 = some (38, .if_icmp .ne 36, 3, 0, 0, 0)) (k_ne' hc2) ?_
        refine mEnds.stp 1 (pc' := 42) (l' := [some (.ref 27), some (.int x1)]) (st' := [.ref 27]) (fun _ => rfl) ?_
        refine t_gr (rfl : mfetch 45 42 = some (42, .getfield 18, 3, 3, 2, 0)) rfl rfl ?_
        refine t_gr (rfl : mfetch 45 45 = some (45, .getfield 143, 3, 1, 11, 0)) rfl rfl ?_
        refine mEnds.stp 2 (pc' := 50) (l' := [some (.ref 27), some (.int x1)]) (st' := [.ref 27, .int x1, .ref 36]) (fun _ => rfl) ?_
        obtain ⟨v1, hv1, hf⟩ := ob hf
        refine t_cv (as := []) (st := [.int x1, .ref 36]) (rfl : mfetch 45 50 = some (50, .invokevirtual 146, 3, 49, 0, 0)) rfl rfl rfl rfl rfl ((ok_T_tokenValue hv1).deep 1) ?_
        obtain ⟨j1, hj1, hf⟩ := ob hf
        obtain ⟨s1, hs1, hf⟩ := ob hf
        refine t_is (rfl : mfetch 45 53 = some (53, .iastore, 1, 0, 0, 0)) rfl rfl hj1 hs1 ?_
        refine mEnds.stp 3 (pc' := 60) (l' := [some (.ref 27), some (.int (x1 + (nI 1)))]) (st' := [.int (nI 8), .int (x1 + (nI 1))]) (fun _ => rfl) ?_
        by_cases hc3 : x1 + (nI 1) = nI 8
        · rw [if_pos hc3] at hf
          refine t_cF (rfl : mfetch 45 60 = some (60, .if_icmp .ne 7, 3, 0, 0, 0)) (k_ne' hc3) ?_
          refine mEnds.stp 1 (pc' := 64) (l' := [some (.ref 27), some (.int (x1 + (nI 1)))]) (st' := [.ref 27]) (fun _ => rfl) ?_
          obtain ⟨s2, hs2, hf⟩ := ob hf
          refine t_cv (as := []) (st := []) (rfl : mfetch 45 64 = some (64, .invokevirtual 149, 3, 46, 0, 0)) rfl rfl rfl rfl rfl (ok_T_refuseNinth hs2) ?_
          refine mEnds.cut (l := [some (.ref 27), some (.int (x1 + (nI 1)))]) ⟨rfl, ⟨rfl, trivial⟩⟩ ?_
          exact ok_T_tellOut_67 (ok_T_tellOut_27 fu) hf
        · rw [if_neg hc3] at hf
          refine t_cT (t := 67) (rfl : mfetch 45 60 = some (60, .if_icmp .ne 7, 3, 0, 0, 0)) rfl (k_ne hc3) ?_
          refine mEnds.cut (l := [some (.ref 27), some (.int (x1 + (nI 1)))]) ⟨rfl, ⟨rfl, trivial⟩⟩ ?_
          exact ok_T_tellOut_67 (ok_T_tellOut_27 fu) hf
      · rw [if_neg hc2] at hf
        refine t_cT (t := 74) (rfl : mfetch 45 38 = some (38, .if_icmp .ne 36, 3, 0, 0, 0)) rfl (k_ne hc2) ?_
        refine mEnds.cut (l := [some (.ref 27), none]) ⟨rfl, trivial⟩ ?_
        exact ok_T_tellOut_74 hf
    · rw [if_neg hc1] at hf
      refine t_cT (t := 74) (rfl : mfetch 45 30 = some (30, .if_icmp .ge 44, 3, 0, 0, 0)) rfl (k_ge hc1) ?_
      refine mEnds.cut (l := [some (.ref 27), none]) ⟨rfl, trivial⟩ ?_
      exact ok_T_tellOut_74 hf
def T_tellOut_16 (s : sg) : Option sg :=
  (some (up s 27 9 (nI 1))).bind fun s1 =>
  (T_nextToken s1).bind fun s2 =>
  T_tellOut_27 FU (nI 0) s2
set_option maxRecDepth 100000 in
theorem ok_T_tellOut_16 {s : sg} {rv : sg} (hf : T_tellOut_16 s = some rv) : mEnds [] 2 45 (16, [some (.ref 27), none], [], hp shC s, 0, 0) (none, hp shC rv, 0, 0) := by
  unfold T_tellOut_16 at hf
  refine mEnds.stp 2 (pc' := 18) (l' := [some (.ref 27), none]) (st' := [.int (nI 1), .ref 27]) (fun _ => rfl) ?_
  obtain ⟨s1, hs1, hf⟩ := ob hf
  refine t_pi (rfl : mfetch 45 18 = some (18, .putfield 41, 3, 3, 9, 0)) rfl rfl rfl rfl hs1 ?_
  refine mEnds.stp 3 (pc' := 24) (l' := [some (.ref 27), some (.int (nI 0))]) (st' := [.ref 27]) (fun _ => rfl) ?_
  obtain ⟨s2, hs2, hf⟩ := ob hf
  refine t_cv (as := []) (st := []) (rfl : mfetch 45 24 = some (24, .invokevirtual 48, 3, 50, 0, 0)) rfl rfl rfl rfl rfl (ok_T_nextToken hs2) ?_
  refine mEnds.cut (l := [some (.ref 27), some (.int (nI 0))]) ⟨rfl, ⟨rfl, trivial⟩⟩ ?_
  exact ok_T_tellOut_27 FU (nI 0) s2 _ hf
def T_tellOut (s : sg) : Option sg :=
  if s 27 9 = 0 then
    T_tellOut_16 s
  else
    (T_fail (nI 4) (s 27 7) s).bind fun s1 =>
    T_tellOut_16 s1
set_option maxRecDepth 100000 in
theorem ok_T_tellOut {s : sg} {rv : sg} (hf : T_tellOut s = some rv) : mEnds [] 2 45 (0, [some (.ref 27), none], [], hp shC s, 0, 0) (none, hp shC rv, 0, 0) := by
  unfold T_tellOut at hf
  refine mEnds.stp 1 (pc' := 1) (l' := [some (.ref 27), none]) (st' := [.ref 27]) (fun _ => rfl) ?_
  refine t_gi (rfl : mfetch 45 1 = some (1, .getfield 41, 3, 3, 9, 0)) rfl rfl ?_
  by_cases hc1 : s 27 9 = 0
  · rw [if_pos hc1] at hf
    refine t_jT (t := 16) (rfl : mfetch 45 4 = some (4, .ifCond .eq 12, 3, 0, 0, 0)) rfl (k_eq hc1) ?_
    refine mEnds.cut (l := [some (.ref 27), none]) ⟨rfl, trivial⟩ ?_
    exact ok_T_tellOut_16 hf
  · rw [if_neg hc1] at hf
    refine t_jF (rfl : mfetch 45 4 = some (4, .ifCond .eq 12, 3, 0, 0, 0)) (k_eq' hc1) ?_
    refine mEnds.stp 3 (pc' := 10) (l' := [some (.ref 27), none]) (st' := [.ref 27, .int (nI 4), .ref 27]) (fun _ => rfl) ?_
    refine t_gi (rfl : mfetch 45 10 = some (10, .getfield 64, 3, 3, 7, 0)) rfl rfl ?_
    obtain ⟨s1, hs1, hf⟩ := ob hf
    refine t_cv (as := [.int (nI 4), .int (s 27 7)]) (st := []) (rfl : mfetch 45 13 = some (13, .invokevirtual 67, 3, 38, 0, 0)) rfl rfl rfl rfl rfl ((ok_T_fail hs1).deep 1) ?_
    refine mEnds.cut (l := [some (.ref 27), none]) ⟨rfl, trivial⟩ ?_
    exact ok_T_tellOut_16 hf
def T_tellLine_17 (y0 : Int32) (s : sg) : Option sg :=
  if y0 = nI 10 then
    (T_tellRoom s).bind fun s1 =>
    some s1
  else
    if y0 = nI 11 then
      (T_tellWall s).bind fun s2 =>
      some s2
    else
      if y0 = nI 12 then
        (T_tellOut s).bind fun s3 =>
        some s3
      else
        if y0 = nI 13 then
          (T_fail (nI 2) (s 27 7) s).bind fun s4 =>
          some s4
        else
          (T_tellTongue y0 s).bind fun s5 =>
          some s5
set_option maxRecDepth 100000 in
theorem ok_T_tellLine_17 {y0 : Int32} {s : sg} {rv : sg} (hf : T_tellLine_17 y0 s = some rv) : mEnds [] 4 39 (17, [some (.ref 27), none], [.int y0], hp shC s, 0, 0) (none, hp shC rv, 0, 0) := by
  unfold T_tellLine_17 at hf
  refine mEnds.stp 2 (pc' := 19) (l' := [some (.ref 27), some (.int y0)]) (st' := [.int y0]) (fun _ => rfl) ?_
  by_cases hc1 : y0 = nI 10
  · rw [if_pos hc1] at hf
    refine t_sw hc1 (fun _ _ _ => rfl) (t := 60) ?_
    refine mEnds.stp 1 (pc' := 61) (l' := [some (.ref 27), some (.int y0)]) (st' := [.ref 27]) (fun _ => rfl) ?_
    obtain ⟨s1, hs1, hf⟩ := ob hf
    refine t_cv (as := []) (st := []) (rfl : mfetch 39 61 = some (61, .invokevirtual 71, 3, 42, 0, 0)) rfl rfl rfl rfl rfl (ok_T_tellRoom hs1) ?_
    refine mEnds.stp 1 (pc' := 86) (l' := [some (.ref 27), some (.int y0)]) (st' := []) (fun _ => rfl) ?_
    cases hf; exact mEnds.rt (fun _ => rfl)
  · rw [if_neg hc1] at hf
    by_cases hc2 : y0 = nI 11
    · rw [if_pos hc2] at hf
      refine t_sw hc2 (fun _ _ _ => rfl) (t := 67) ?_
      refine mEnds.stp 1 (pc' := 68) (l' := [some (.ref 27), some (.int y0)]) (st' := [.ref 27]) (fun _ => rfl) ?_
      obtain ⟨s2, hs2, hf⟩ := ob hf
      refine t_cv (as := []) (st := []) (rfl : mfetch 39 68 = some (68, .invokevirtual 74, 3, 44, 0, 0)) rfl rfl rfl rfl rfl (ok_T_tellWall hs2) ?_
      refine mEnds.stp 1 (pc' := 86) (l' := [some (.ref 27), some (.int y0)]) (st' := []) (fun _ => rfl) ?_
      cases hf; exact mEnds.rt (fun _ => rfl)
    · rw [if_neg hc2] at hf
      by_cases hc3 : y0 = nI 12
      · rw [if_pos hc3] at hf
        refine t_sw hc3 (fun _ _ _ => rfl) (t := 74) ?_
        refine mEnds.stp 1 (pc' := 75) (l' := [some (.ref 27), some (.int y0)]) (st' := [.ref 27]) (fun _ => rfl) ?_
        obtain ⟨s3, hs3, hf⟩ := ob hf
        refine t_cv (as := []) (st := []) (rfl : mfetch 39 75 = some (75, .invokevirtual 77, 3, 45, 0, 0)) rfl rfl rfl rfl rfl ((ok_T_tellOut hs3).deep 1) ?_
        refine mEnds.stp 1 (pc' := 86) (l' := [some (.ref 27), some (.int y0)]) (st' := []) (fun _ => rfl) ?_
        cases hf; exact mEnds.rt (fun _ => rfl)
      · rw [if_neg hc3] at hf
        by_cases hc4 : y0 = nI 13
        · rw [if_pos hc4] at hf
          refine t_sw hc4 (fun _ _ _ => rfl) (t := 48) ?_
          refine mEnds.stp 3 (pc' := 51) (l' := [some (.ref 27), some (.int y0)]) (st' := [.ref 27, .int (nI 2), .ref 27]) (fun _ => rfl) ?_
          refine t_gi (rfl : mfetch 39 51 = some (51, .getfield 64, 3, 3, 7, 0)) rfl rfl ?_
          obtain ⟨s4, hs4, hf⟩ := ob hf
          refine t_cv (as := [.int (nI 2), .int (s 27 7)]) (st := []) (rfl : mfetch 39 54 = some (54, .invokevirtual 67, 3, 38, 0, 0)) rfl rfl rfl rfl rfl ((ok_T_fail hs4).deep 3) ?_
          refine mEnds.stp 1 (pc' := 86) (l' := [some (.ref 27), some (.int y0)]) (st' := []) (fun _ => rfl) ?_
          cases hf; exact mEnds.rt (fun _ => rfl)
        · rw [if_neg hc4] at hf
          refine t_swD (t := 81) (rfl : mfetch 39 19 = some (19, .tableswitch 62 10 13 #[41, 48, 55, 29], 29, 0, 0, 0)) rfl (sw_out (fun k hk => match k, hk with | 0, _ => hc1 | 1, _ => hc2 | 2, _ => hc3 | 3, _ => hc4 | k + 4, hk => absurd hk (by omega))) ?_
          refine mEnds.stp 2 (pc' := 83) (l' := [some (.ref 27), some (.int y0)]) (st' := [.int y0, .ref 27]) (fun _ => rfl) ?_
          obtain ⟨s5, hs5, hf⟩ := ob hf
          refine t_cv (as := [.int y0]) (st := []) (rfl : mfetch 39 83 = some (83, .invokevirtual 80, 3, 43, 0, 0)) rfl rfl rfl rfl rfl (ok_T_tellTongue hs5) ?_
          cases hf; exact mEnds.rt (fun _ => rfl)
def T_tellLine (s : sg) : Option sg :=
  if s 27 6 = nI 1 then
    (T_lineByName s).bind fun v1 =>
    T_tellLine_17 v1 s
  else
    T_tellLine_17 (nI 13) s
set_option maxRecDepth 100000 in
theorem ok_T_tellLine {s : sg} {rv : sg} (hf : T_tellLine s = some rv) : mEnds [] 4 39 (0, [some (.ref 27), none], [], hp shC s, 0, 0) (none, hp shC rv, 0, 0) := by
  unfold T_tellLine at hf
  refine mEnds.stp 1 (pc' := 1) (l' := [some (.ref 27), none]) (st' := [.ref 27]) (fun _ => rfl) ?_
  refine t_gi (rfl : mfetch 39 1 = some (1, .getfield 51, 3, 3, 6, 0)) rfl rfl ?_
  refine mEnds.stp 1 (pc' := 5) (l' := [some (.ref 27), none]) (st' := [.int (nI 1), .int (s 27 6)]) (fun _ => rfl) ?_
  by_cases hc1 : s 27 6 = nI 1
  · rw [if_pos hc1] at hf
    refine t_cF (rfl : mfetch 39 5 = some (5, .if_icmp .ne 10, 3, 0, 0, 0)) (k_ne' hc1) ?_
    refine mEnds.stp 1 (pc' := 9) (l' := [some (.ref 27), none]) (st' := [.ref 27]) (fun _ => rfl) ?_
    obtain ⟨v1, hv1, hf⟩ := ob hf
    refine t_cv (as := []) (st := []) (rfl : mfetch 39 9 = some (9, .invokevirtual 60, 3, 40, 0, 0)) rfl rfl rfl rfl rfl ((ok_T_lineByName hv1).deep 2) ?_
    refine mEnds.stp 1 (pc' := 17) (l' := [some (.ref 27), none]) (st' := [.int v1]) (fun _ => rfl) ?_
    refine mEnds.cut (l := [some (.ref 27), none]) ⟨rfl, trivial⟩ ?_
    exact ok_T_tellLine_17 hf
  · rw [if_neg hc1] at hf
    refine t_cT (t := 15) (rfl : mfetch 39 5 = some (5, .if_icmp .ne 10, 3, 0, 0, 0)) rfl (k_ne hc1) ?_
    refine mEnds.stp 1 (pc' := 17) (l' := [some (.ref 27), none]) (st' := [.int (nI 13)]) (fun _ => rfl) ?_
    refine mEnds.cut (l := [some (.ref 27), none]) ⟨rfl, trivial⟩ ?_
    exact ok_T_tellLine_17 hf
def T_findMissing_43 : Nat → Int32 → sg → Option sg
  | 0, _, _ => none
  | fu + 1, x1, s =>
  if x1 < nI 5 then
    if ((s 27 10) >>> (x1 &&& 31)) &&& (nI 1) = nI 1 then
      (H_hasWall 29 x1 s).bind fun v1 =>
      if v1 = 0 then
        (T_fail (nI 6) (s 27 1) s).bind fun s1 =>
        T_findMissing_43 fu (x1 + (nI 1)) s1
      else
        T_findMissing_43 fu (x1 + (nI 1)) s
    else
      T_findMissing_43 fu (x1 + (nI 1)) s
  else
    some s
set_option maxRecDepth 100000 in
theorem ok_T_findMissing_43 : ∀ (fu : Nat) (x1 : Int32) (s : sg) (rv : sg), T_findMissing_43 fu x1 s = some rv → mEnds [] 1 53 (43, [some (.ref 27), some (.int x1)], [], hp shC s, 0, 0) (none, hp shC rv, 0, 0)
  | 0, _, _, _, hf => by cases hf
  | fu + 1, x1, s, rv, hf => by
    rw [T_findMissing_43] at hf
    refine mEnds.stp 2 (pc' := 45) (l' := [some (.ref 27), some (.int x1)]) (st' := [.int (nI 5), .int x1]) (fun _ => rfl) ?_
    by_cases hc1 : x1 < nI 5
    · rw [if_pos hc1] at hf
      refine t_cF (rfl : mfetch 53 45 = some (45, .if_icmp .ge 42, 3, 0, 0, 0)) (k_ge' hc1) ?_
      refine mEnds.stp 1 (pc' := 49) (l' := [some (.ref 27), some (.int x1)]) (st' := [.ref 27]) (fun _ => rfl) ?_
      refine t_gi (rfl : mfetch 53 49 = some (49, .getfield 45, 3, 3, 10, 0)) rfl rfl ?_
      refine mEnds.stp 5 (pc' := 57) (l' := [some (.ref 27), some (.int x1)]) (st' := [.int (nI 1), .int (((s 27 10) >>> (x1 &&& 31)) &&& (nI 1))]) (fun _ => rfl) ?_
      by_cases hc2 : ((s 27 10) >>> (x1 &&& 31)) &&& (nI 1) = nI 1
      · rw [if_pos hc2] at hf
        refine t_cF (rfl : mfetch 53 57 = some (57, .if_icmp .ne 24, 3, 0, 0, 0)) (k_ne' hc2) ?_
        refine mEnds.stp 1 (pc' := 61) (l' := [some (.ref 27), some (.int x1)]) (st' := [.ref 27]) (fun _ => rfl) ?_
        refine t_gr (rfl : mfetch 53 61 = some (61, .getfield 18, 3, 3, 2, 0)) rfl rfl ?_
        refine mEnds.stp 1 (pc' := 65) (l' := [some (.ref 27), some (.int x1)]) (st' := [.int x1, .ref 29]) (fun _ => rfl) ?_
        obtain ⟨v1, hv1, hf⟩ := ob hf
        refine t_cv (as := [.int x1]) (st := []) (rfl : mfetch 53 65 = some (65, .invokevirtual 158, 3, 9, 0, 0)) rfl rfl rfl rfl rfl (ok_H_hasWall isH_29 hv1) ?_
        by_cases hc3 : v1 = 0
        · rw [if_pos hc3] at hf
          refine t_jF (rfl : mfetch 53 68 = some (68, .ifCond .ne 13, 3, 0, 0, 0)) (k_ne' hc3) ?_
          refine mEnds.stp 3 (pc' := 75) (l' := [some (.ref 27), some (.int x1)]) (st' := [.ref 27, .int (nI 6), .ref 27]) (fun _ => rfl) ?_
          refine t_gi (rfl : mfetch 53 75 = some (75, .getfield 22, 3, 3, 1, 0)) rfl rfl ?_
          obtain ⟨s1, hs1, hf⟩ := ob hf
          refine t_cv (as := [.int (nI 6), .int (s 27 1)]) (st := []) (rfl : mfetch 53 78 = some (78, .invokevirtual 67, 3, 38, 0, 0)) rfl rfl rfl rfl rfl (ok_T_fail hs1) ?_
          refine mEnds.stp 2 (pc' := 43) (l' := [some (.ref 27), some (.int (x1 + (nI 1)))]) (st' := []) (fun _ => rfl) ?_
          refine mEnds.cut (l := [some (.ref 27), some (.int (x1 + (nI 1)))]) ⟨rfl, ⟨rfl, trivial⟩⟩ ?_
          exact ok_T_findMissing_43 fu (x1 + (nI 1)) s1 _ hf
        · rw [if_neg hc3] at hf
          refine t_jT (t := 81) (rfl : mfetch 53 68 = some (68, .ifCond .ne 13, 3, 0, 0, 0)) rfl (k_ne hc3) ?_
          refine mEnds.stp 2 (pc' := 43) (l' := [some (.ref 27), some (.int (x1 + (nI 1)))]) (st' := []) (fun _ => rfl) ?_
          refine mEnds.cut (l := [some (.ref 27), some (.int (x1 + (nI 1)))]) ⟨rfl, ⟨rfl, trivial⟩⟩ ?_
          exact ok_T_findMissing_43 fu (x1 + (nI 1)) s _ hf
      · rw [if_neg hc2] at hf
        refine t_cT (t := 81) (rfl : mfetch 53 57 = some (57, .if_icmp .ne 24, 3, 0, 0, 0)) rfl (k_ne hc2) ?_
        refine mEnds.stp 2 (pc' := 43) (l' := [some (.ref 27), some (.int (x1 + (nI 1)))]) (st' := []) (fun _ => rfl) ?_
        refine mEnds.cut (l := [some (.ref 27), some (.int (x1 + (nI 1)))]) ⟨rfl, ⟨rfl, trivial⟩⟩ ?_
        exact ok_T_findMissing_43 fu (x1 + (nI 1)) s _ hf
    · rw [if_neg hc1] at hf
      refine t_cT (t := 87) (rfl : mfetch 53 45 = some (45, .if_icmp .ge 42, 3, 0, 0, 0)) rfl (k_ge hc1) ?_
      cases hf; exact mEnds.rt (fun _ => rfl)
def T_findMissing_8 : Nat → Int32 → sg → Option sg
  | 0, _, _ => none
  | fu + 1, x1, s =>
  if x1 < nI 6 then
    (H_hasTongue 29 x1 s).bind fun v1 =>
    if v1 = 0 then
      T_findMissing_8 fu (x1 + (nI 1)) s
    else
      (T_fail (nI 6) (s 27 1) s).bind fun s1 =>
      T_findMissing_8 fu (x1 + (nI 1)) s1
  else
    T_findMissing_43 FU (nI 0) s
set_option maxRecDepth 100000 in
theorem ok_T_findMissing_8 : ∀ (fu : Nat) (x1 : Int32) (s : sg) (rv : sg), T_findMissing_8 fu x1 s = some rv → mEnds [] 1 53 (8, [some (.ref 27), some (.int x1)], [], hp shC s, 0, 0) (none, hp shC rv, 0, 0)
  | 0, _, _, _, hf => by cases hf
  | fu + 1, x1, s, rv, hf => by
    rw [T_findMissing_8] at hf
    refine mEnds.stp 2 (pc' := 11) (l' := [some (.ref 27), some (.int x1)]) (st' := [.int (nI 6), .int x1]) (fun _ => rfl) ?_
    by_cases hc1 : x1 < nI 6
    · rw [if_pos hc1] at hf
      refine t_cF (rfl : mfetch 53 11 = some (11, .if_icmp .ge 30, 3, 0, 0, 0)) (k_ge' hc1) ?_
      refine mEnds.stp 1 (pc' := 15) (l' := [some (.ref 27), some (.int x1)]) (st' := [.ref 27]) (fun _ => rfl) ?_
      refine t_gr (rfl : mfetch 53 15 = some (15, .getfield 18, 3, 3, 2, 0)) rfl rfl ?_
      refine mEnds.stp 1 (pc' := 19) (l' := [some (.ref 27), some (.int x1)]) (st' := [.int x1, .ref 29]) (fun _ => rfl) ?_
      obtain ⟨v1, hv1, hf⟩ := ob hf
      refine t_cv (as := [.int x1]) (st := []) (rfl : mfetch 53 19 = some (19, .invokevirtual 130, 3, 10, 0, 0)) rfl rfl rfl rfl rfl (ok_H_hasTongue isH_29 hv1) ?_
      by_cases hc2 : v1 = 0
      · rw [if_pos hc2] at hf
        refine t_jT (t := 35) (rfl : mfetch 53 22 = some (22, .ifCond .eq 13, 3, 0, 0, 0)) rfl (k_eq hc2) ?_
        refine mEnds.stp 2 (pc' := 8) (l' := [some (.ref 27), some (.int (x1 + (nI 1)))]) (st' := []) (fun _ => rfl) ?_
        refine mEnds.cut (l := [some (.ref 27), some (.int (x1 + (nI 1)))]) ⟨rfl, ⟨rfl, trivial⟩⟩ ?_
        exact ok_T_findMissing_8 fu (x1 + (nI 1)) s _ hf
      · rw [if_neg hc2] at hf
        refine t_jF (rfl : mfetch 53 22 = some (22, .ifCond .eq 13, 3, 0, 0, 0)) (k_eq' hc2) ?_
        refine mEnds.stp 3 (pc' := 29) (l' := [some (.ref 27), some (.int x1)]) (st' := [.ref 27, .int (nI 6), .ref 27]) (fun _ => rfl) ?_
        refine t_gi (rfl : mfetch 53 29 = some (29, .getfield 22, 3, 3, 1, 0)) rfl rfl ?_
        obtain ⟨s1, hs1, hf⟩ := ob hf
        refine t_cv (as := [.int (nI 6), .int (s 27 1)]) (st := []) (rfl : mfetch 53 32 = some (32, .invokevirtual 67, 3, 38, 0, 0)) rfl rfl rfl rfl rfl (ok_T_fail hs1) ?_
        refine mEnds.stp 2 (pc' := 8) (l' := [some (.ref 27), some (.int (x1 + (nI 1)))]) (st' := []) (fun _ => rfl) ?_
        refine mEnds.cut (l := [some (.ref 27), some (.int (x1 + (nI 1)))]) ⟨rfl, ⟨rfl, trivial⟩⟩ ?_
        exact ok_T_findMissing_8 fu (x1 + (nI 1)) s1 _ hf
    · rw [if_neg hc1] at hf
      refine t_cT (t := 41) (rfl : mfetch 53 11 = some (11, .if_icmp .ge 30, 3, 0, 0, 0)) rfl (k_ge hc1) ?_
      refine mEnds.stp 2 (pc' := 43) (l' := [some (.ref 27), some (.int (nI 0))]) (st' := []) (fun _ => rfl) ?_
      refine mEnds.cut (l := [some (.ref 27), some (.int (nI 0))]) ⟨rfl, ⟨rfl, trivial⟩⟩ ?_
      exact ok_T_findMissing_43 FU (nI 0) s _ hf
def T_findMissing (s : sg) : Option sg :=
  T_findMissing_8 FU (s 29 0) s
set_option maxRecDepth 100000 in
theorem ok_T_findMissing {s : sg} {rv : sg} (hf : T_findMissing s = some rv) : mEnds [] 1 53 (0, [some (.ref 27), none], [], hp shC s, 0, 0) (none, hp shC rv, 0, 0) := by
  unfold T_findMissing at hf
  refine mEnds.stp 1 (pc' := 1) (l' := [some (.ref 27), none]) (st' := [.ref 27]) (fun _ => rfl) ?_
  refine t_gr (rfl : mfetch 53 1 = some (1, .getfield 18, 3, 3, 2, 0)) rfl rfl ?_
  refine t_gi (rfl : mfetch 53 4 = some (4, .getfield 110, 3, 1, 0, 0)) rfl rfl ?_
  refine mEnds.stp 1 (pc' := 8) (l' := [some (.ref 27), some (.int (s 29 0))]) (st' := []) (fun _ => rfl) ?_
  refine mEnds.cut (l := [some (.ref 27), some (.int (s 29 0))]) ⟨rfl, ⟨rfl, trivial⟩⟩ ?_
  exact ok_T_findMissing_8 FU (s 29 0) s _ hf
def T_tell_88 (s : sg) : Option (Int32 × sg) :=
  (T_findMissing s).bind fun s1 =>
  if s1 27 3 = 0 then
    some (nI 1, s1)
  else
    some (nI 0, s1)
set_option maxRecDepth 100000 in
theorem ok_T_tell_88 {s : sg} {rv : (Int32 × sg)} (hf : T_tell_88 s = some rv) : mEnds [] 5 37 (88, [some (.ref 27), none], [], hp shC s, 0, 0) (some (.int rv.1), hp shC rv.2, 0, 0) := by
  unfold T_tell_88 at hf
  refine mEnds.stp 1 (pc' := 89) (l' := [some (.ref 27), none]) (st' := [.ref 27]) (fun _ => rfl) ?_
  obtain ⟨s1, hs1, hf⟩ := ob hf
  refine t_cv (as := []) (st := []) (rfl : mfetch 37 89 = some (89, .invokevirtual 57, 3, 53, 0, 0)) rfl rfl rfl rfl rfl ((ok_T_findMissing hs1).deep 3) ?_
  refine mEnds.stp 1 (pc' := 93) (l' := [some (.ref 27), none]) (st' := [.ref 27]) (fun _ => rfl) ?_
  refine t_gi (rfl : mfetch 37 93 = some (93, .getfield 29, 3, 3, 3, 0)) rfl rfl ?_
  by_cases hc1 : s1 27 3 = 0
  · rw [if_pos hc1] at hf
    refine t_jF (rfl : mfetch 37 96 = some (96, .ifCond .ne 7, 3, 0, 0, 0)) (k_ne' hc1) ?_
    refine mEnds.stp 2 (pc' := 104) (l' := [some (.ref 27), none]) (st' := [.int (nI 1)]) (fun _ => rfl) ?_
    exact mEnds.rti (Option.some.inj hf) (fun _ => rfl)
  · rw [if_neg hc1] at hf
    refine t_jT (t := 103) (rfl : mfetch 37 96 = some (96, .ifCond .ne 7, 3, 0, 0, 0)) rfl (k_ne hc1) ?_
    refine mEnds.stp 1 (pc' := 104) (l' := [some (.ref 27), none]) (st' := [.int (nI 0)]) (fun _ => rfl) ?_
    exact mEnds.rti (Option.some.inj hf) (fun _ => rfl)
def T_tell_43 : Nat → Int32 → sg → Option (Int32 × sg)
  | 0, _, _ => none
  | fu + 1, x1, s =>
  if x1 < nI 160 then
    if s 27 3 = 0 then
      if s 27 6 = 0 then
        T_tell_88 s
      else
        (T_tellLine s).bind fun s1 =>
        (some (up s1 27 5 ((s1 27 5) + (nI 1)))).bind fun s2 =>
        (T_nextToken s2).bind fun s3 =>
        T_tell_43 fu (x1 + (nI 1)) s3
    else
      T_tell_88 s
  else
    T_tell_88 s
set_option maxRecDepth 100000 in
theorem ok_T_tell_43 : ∀ (fu : Nat) (x1 : Int32) (s : sg) (rv : (Int32 × sg)), T_tell_43 fu x1 s = some rv → mEnds [] 5 37 (43, [some (.ref 27), some (.int x1)], [], hp shC s, 0, 0) (some (.int rv.1), hp shC rv.2, 0, 0)
  | 0, _, _, _, hf => by cases hf
  | fu + 1, x1, s, rv, hf => by
    rw [T_tell_43] at hf
    refine mEnds.stp 2 (pc' := 47) (l' := [some (.ref 27), some (.int x1)]) (st' := [.int (nI 160), .int x1]) (fun _ => rfl) ?_
    by_cases hc1 : x1 < nI 160
    · rw [if_pos hc1] at hf
      refine t_cF (rfl : mfetch 37 47 = some (47, .if_icmp .ge 41, 3, 0, 0, 0)) (k_ge' hc1) ?_
      refine mEnds.stp 1 (pc' := 51) (l' := [some (.ref 27), some (.int x1)]) (st' := [.ref 27]) (fun _ => rfl) ?_
      refine t_gi (rfl : mfetch 37 51 = some (51, .getfield 29, 3, 3, 3, 0)) rfl rfl ?_
      by_cases hc2 : s 27 3 = 0
      · rw [if_pos hc2] at hf
        refine t_jF (rfl : mfetch 37 54 = some (54, .ifCond .ne 34, 3, 0, 0, 0)) (k_ne' hc2) ?_
        refine mEnds.stp 1 (pc' := 58) (l' := [some (.ref 27), some (.int x1)]) (st' := [.ref 27]) (fun _ => rfl) ?_
        refine t_gi (rfl : mfetch 37 58 = some (58, .getfield 51, 3, 3, 6, 0)) rfl rfl ?_
        by_cases hc3 : s 27 6 = 0
        · rw [if_pos hc3] at hf
          refine t_jT (t := 88) (rfl : mfetch 37 61 = some (61, .ifCond .eq 27, 3, 0, 0, 0)) rfl (k_eq hc3) ?_
          refine mEnds.cut (l := [some (.ref 27), none]) ⟨rfl, trivial⟩ ?_
          exact ok_T_tell_88 hf
        · rw [if_neg hc3] at hf
          refine t_jF (rfl : mfetch 37 61 = some (61, .ifCond .eq 27, 3, 0, 0, 0)) (k_eq' hc3) ?_
          refine mEnds.stp 1 (pc' := 65) (l' := [some (.ref 27), some (.int x1)]) (st' := [.ref 27]) (fun _ => rfl) ?_
          obtain ⟨s1, hs1, hf⟩ := ob hf
          refine t_cv (as := []) (st := []) (rfl : mfetch 37 65 = some (65, .invokevirtual 54, 3, 39, 0, 0)) rfl rfl rfl rfl rfl (ok_T_tellLine hs1) ?_
          refine mEnds.stp 2 (pc' := 70) (l' := [some (.ref 27), some (.int x1)]) (st' := [.ref 27, .ref 27]) (fun _ => rfl) ?_
          refine t_gi (rfl : mfetch 37 70 = some (70, .getfield 35, 3, 3, 5, 0)) rfl rfl ?_
          refine mEnds.stp 2 (pc' := 75) (l' := [some (.ref 27), some (.int x1)]) (st' := [.int ((s1 27 5) + (nI 1)), .ref 27]) (fun _ => rfl) ?_
          obtain ⟨s2, hs2, hf⟩ := ob hf
          refine t_pi (rfl : mfetch 37 75 = some (75, .putfield 35, 3, 3, 5, 0)) rfl rfl rfl rfl hs2 ?_
          refine mEnds.stp 1 (pc' := 79) (l' := [some (.ref 27), some (.int x1)]) (st' := [.ref 27]) (fun _ => rfl) ?_
          obtain ⟨s3, hs3, hf⟩ := ob hf
          refine t_cv (as := []) (st := []) (rfl : mfetch 37 79 = some (79, .invokevirtual 48, 3, 50, 0, 0)) rfl rfl rfl rfl rfl ((ok_T_nextToken hs3).deep 3) ?_
          refine mEnds.stp 2 (pc' := 43) (l' := [some (.ref 27), some (.int (x1 + (nI 1)))]) (st' := []) (fun _ => rfl) ?_
          refine mEnds.cut (l := [some (.ref 27), some (.int (x1 + (nI 1)))]) ⟨rfl, ⟨rfl, trivial⟩⟩ ?_
          exact ok_T_tell_43 fu (x1 + (nI 1)) s3 _ hf
      · rw [if_neg hc2] at hf
        refine t_jT (t := 88) (rfl : mfetch 37 54 = some (54, .ifCond .ne 34, 3, 0, 0, 0)) rfl (k_ne hc2) ?_
        refine mEnds.cut (l := [some (.ref 27), none]) ⟨rfl, trivial⟩ ?_
        exact ok_T_tell_88 hf
    · rw [if_neg hc1] at hf
      refine t_cT (t := 88) (rfl : mfetch 37 47 = some (47, .if_icmp .ge 41, 3, 0, 0, 0)) rfl (k_ge hc1) ?_
      refine mEnds.cut (l := [some (.ref 27), none]) ⟨rfl, trivial⟩ ?_
      exact ok_T_tell_88 hf
def T_tell (s : sg) : Option (Int32 × sg) :=
  (H_empty 29 s).bind fun s1 =>
  (some (up s1 27 3 (nI 0))).bind fun s2 =>
  (some (up s2 27 4 (nI 0))).bind fun s3 =>
  (some (up s3 27 5 (nI 0))).bind fun s4 =>
  (some (up s4 27 8 (nI 0))).bind fun s5 =>
  (some (up s5 27 9 (nI 0))).bind fun s6 =>
  (some (up s6 27 10 (nI 0))).bind fun s7 =>
  (T_nextToken s7).bind fun s8 =>
  T_tell_43 FU (nI 0) s8
set_option maxRecDepth 100000 in
theorem ok_T_tell {s : sg} {rv : (Int32 × sg)} (hf : T_tell s = some rv) : mEnds [] 5 37 (0, [some (.ref 27), none], [], hp shC s, 0, 0) (some (.int rv.1), hp shC rv.2, 0, 0) := by
  unfold T_tell at hf
  refine mEnds.stp 1 (pc' := 1) (l' := [some (.ref 27), none]) (st' := [.ref 27]) (fun _ => rfl) ?_
  refine t_gr (rfl : mfetch 37 1 = some (1, .getfield 18, 3, 3, 2, 0)) rfl rfl ?_
  obtain ⟨s1, hs1, hf⟩ := ob hf
  refine t_cv (as := []) (st := []) (rfl : mfetch 37 4 = some (4, .invokevirtual 26, 3, 6, 0, 0)) rfl rfl rfl rfl rfl ((ok_H_empty isH_29 hs1).deep 4) ?_
  refine mEnds.stp 2 (pc' := 9) (l' := [some (.ref 27), none]) (st' := [.int (nI 0), .ref 27]) (fun _ => rfl) ?_
  obtain ⟨s2, hs2, hf⟩ := ob hf
  refine t_pi (rfl : mfetch 37 9 = some (9, .putfield 29, 3, 3, 3, 0)) rfl rfl rfl rfl hs2 ?_
  refine mEnds.stp 2 (pc' := 14) (l' := [some (.ref 27), none]) (st' := [.int (nI 0), .ref 27]) (fun _ => rfl) ?_
  obtain ⟨s3, hs3, hf⟩ := ob hf
  refine t_pi (rfl : mfetch 37 14 = some (14, .putfield 32, 3, 3, 4, 0)) rfl rfl rfl rfl hs3 ?_
  refine mEnds.stp 2 (pc' := 19) (l' := [some (.ref 27), none]) (st' := [.int (nI 0), .ref 27]) (fun _ => rfl) ?_
  obtain ⟨s4, hs4, hf⟩ := ob hf
  refine t_pi (rfl : mfetch 37 19 = some (19, .putfield 35, 3, 3, 5, 0)) rfl rfl rfl rfl hs4 ?_
  refine mEnds.stp 2 (pc' := 24) (l' := [some (.ref 27), none]) (st' := [.int (nI 0), .ref 27]) (fun _ => rfl) ?_
  obtain ⟨s5, hs5, hf⟩ := ob hf
  refine t_pi (rfl : mfetch 37 24 = some (24, .putfield 38, 3, 3, 8, 0)) rfl rfl rfl rfl hs5 ?_
  refine mEnds.stp 2 (pc' := 29) (l' := [some (.ref 27), none]) (st' := [.int (nI 0), .ref 27]) (fun _ => rfl) ?_
  obtain ⟨s6, hs6, hf⟩ := ob hf
  refine t_pi (rfl : mfetch 37 29 = some (29, .putfield 41, 3, 3, 9, 0)) rfl rfl rfl rfl hs6 ?_
  refine mEnds.stp 2 (pc' := 34) (l' := [some (.ref 27), none]) (st' := [.int (nI 0), .ref 27]) (fun _ => rfl) ?_
  obtain ⟨s7, hs7, hf⟩ := ob hf
  refine t_pi (rfl : mfetch 37 34 = some (34, .putfield 45, 3, 3, 10, 0)) rfl rfl rfl rfl hs7 ?_
  refine mEnds.stp 1 (pc' := 38) (l' := [some (.ref 27), none]) (st' := [.ref 27]) (fun _ => rfl) ?_
  obtain ⟨s8, hs8, hf⟩ := ob hf
  refine t_cv (as := []) (st := []) (rfl : mfetch 37 38 = some (38, .invokevirtual 48, 3, 50, 0, 0)) rfl rfl rfl rfl rfl ((ok_T_nextToken hs8).deep 3) ?_
  refine mEnds.stp 2 (pc' := 43) (l' := [some (.ref 27), some (.int (nI 0))]) (st' := []) (fun _ => rfl) ?_
  refine mEnds.cut (l := [some (.ref 27), some (.int (nI 0))]) ⟨rfl, ⟨rfl, trivial⟩⟩ ?_
  exact ok_T_tell_43 FU (nI 0) s8 _ hf
def C_feed (x1 : Int32) (s : sg) : Option (Int32 × sg) :=
  (C_within x1 (nI 0) (nI 127) s).bind fun v1 =>
  if v1 = 0 then
    some ((-1), s)
  else
    (T_put x1 s).bind fun v2 =>
    if v2.1 = 0 then
      some ((-3), v2.2)
    else
      some (v2.2 27 1, v2.2)
set_option maxRecDepth 100000 in
theorem ok_C_feed {x1 : Int32} {s : sg} {rv : (Int32 × sg)} (hf : C_feed x1 s = some rv) : mEnds [] 1 55 (0, [some (.ref 10), some (.int x1)], [], hp shC s, 0, 0) (some (.int rv.1), hp shC rv.2, 0, 0) := by
  unfold C_feed at hf
  refine mEnds.stp 3 (pc' := 4) (l' := [some (.ref 10), some (.int x1)]) (st' := [.int (nI 127), .int (nI 0), .int x1]) (fun _ => rfl) ?_
  obtain ⟨v1, hv1, hf⟩ := ob hf
  refine t_cs (as := [.int x1, .int (nI 0), .int (nI 127)]) (st := []) (Or.inl rfl) (rfl : mfetch 55 4 = some (4, .invokestatic 48, 3, 105, 0, 0)) rfl rfl rfl (ok_C_within hv1) ?_
  by_cases hc1 : v1 = 0
  · rw [if_pos hc1] at hf
    refine t_jF (rfl : mfetch 55 7 = some (7, .ifCond .ne 5, 3, 0, 0, 0)) (k_ne' hc1) ?_
    refine mEnds.stp 1 (pc' := 11) (l' := [some (.ref 10), some (.int x1)]) (st' := [.int (-1)]) (fun _ => rfl) ?_
    exact mEnds.rti (Option.some.inj hf) (fun _ => rfl)
  · rw [if_neg hc1] at hf
    refine t_jT (t := 12) (rfl : mfetch 55 7 = some (7, .ifCond .ne 5, 3, 0, 0, 0)) rfl (k_ne hc1) ?_
    refine mEnds.stp 1 (pc' := 13) (l' := [some (.ref 10), some (.int x1)]) (st' := [.ref 10]) (fun _ => rfl) ?_
    refine t_gr (rfl : mfetch 55 13 = some (13, .getfield 43, 3, 4, 6, 0)) rfl rfl ?_
    refine mEnds.stp 1 (pc' := 17) (l' := [some (.ref 10), some (.int x1)]) (st' := [.int x1, .ref 27]) (fun _ => rfl) ?_
    obtain ⟨v2, hv2, hf⟩ := ob hf
    refine t_cv (as := [.int x1]) (st := []) (rfl : mfetch 55 17 = some (17, .invokevirtual 52, 3, 36, 0, 0)) rfl rfl rfl rfl rfl (ok_T_put hv2) ?_
    by_cases hc2 : v2.1 = 0
    · rw [if_pos hc2] at hf
      refine t_jT (t := 33) (rfl : mfetch 55 20 = some (20, .ifCond .eq 13, 3, 0, 0, 0)) rfl (k_eq hc2) ?_
      refine mEnds.stp 1 (pc' := 35) (l' := [some (.ref 10), some (.int x1)]) (st' := [.int (-3)]) (fun _ => rfl) ?_
      exact mEnds.rti (Option.some.inj hf) (fun _ => rfl)
    · rw [if_neg hc2] at hf
      refine t_jF (rfl : mfetch 55 20 = some (20, .ifCond .eq 13, 3, 0, 0, 0)) (k_eq' hc2) ?_
      refine mEnds.stp 1 (pc' := 24) (l' := [some (.ref 10), some (.int x1)]) (st' := [.ref 10]) (fun _ => rfl) ?_
      refine t_gr (rfl : mfetch 55 24 = some (24, .getfield 43, 3, 4, 6, 0)) rfl rfl ?_
      refine t_gi (rfl : mfetch 55 27 = some (27, .getfield 56, 3, 3, 1, 0)) rfl rfl ?_
      refine mEnds.stp 1 (pc' := 35) (l' := [some (.ref 10), some (.int x1)]) (st' := [.int (v2.2 27 1)]) (fun _ => rfl) ?_
      exact mEnds.rti (Option.some.inj hf) (fun _ => rfl)
def C_end (x1 : Int32) (s : sg) : Option (Int32 × sg) :=
  (C_within x1 (nI 0) (s 27 1) s).bind fun v1 =>
  if v1 = 0 then
    some ((-1), s)
  else
    (some (up s 27 1 x1)).bind fun s1 =>
    some (s 27 1, s1)
set_option maxRecDepth 100000 in
theorem ok_C_end {x1 : Int32} {s : sg} {rv : (Int32 × sg)} (hf : C_end x1 s = some rv) : mEnds [] 1 56 (0, [some (.ref 10), some (.int x1), none], [], hp shC s, 0, 0) (some (.int rv.1), hp shC rv.2, 0, 0) := by
  unfold C_end at hf
  refine mEnds.stp 1 (pc' := 1) (l' := [some (.ref 10), some (.int x1), none]) (st' := [.ref 10]) (fun _ => rfl) ?_
  refine t_gr (rfl : mfetch 56 1 = some (1, .getfield 43, 3, 4, 6, 0)) rfl rfl ?_
  refine t_gi (rfl : mfetch 56 4 = some (4, .getfield 56, 3, 3, 1, 0)) rfl rfl ?_
  refine mEnds.stp 4 (pc' := 11) (l' := [some (.ref 10), some (.int x1), some (.int (s 27 1))]) (st' := [.int (s 27 1), .int (nI 0), .int x1]) (fun _ => rfl) ?_
  obtain ⟨v1, hv1, hf⟩ := ob hf
  refine t_cs (as := [.int x1, .int (nI 0), .int (s 27 1)]) (st := []) (Or.inl rfl) (rfl : mfetch 56 11 = some (11, .invokestatic 48, 3, 105, 0, 0)) rfl rfl rfl (ok_C_within hv1) ?_
  by_cases hc1 : v1 = 0
  · rw [if_pos hc1] at hf
    refine t_jF (rfl : mfetch 56 14 = some (14, .ifCond .ne 5, 3, 0, 0, 0)) (k_ne' hc1) ?_
    refine mEnds.stp 1 (pc' := 18) (l' := [some (.ref 10), some (.int x1), some (.int (s 27 1))]) (st' := [.int (-1)]) (fun _ => rfl) ?_
    exact mEnds.rti (Option.some.inj hf) (fun _ => rfl)
  · rw [if_neg hc1] at hf
    refine t_jT (t := 19) (rfl : mfetch 56 14 = some (14, .ifCond .ne 5, 3, 0, 0, 0)) rfl (k_ne hc1) ?_
    refine mEnds.stp 1 (pc' := 20) (l' := [some (.ref 10), some (.int x1), some (.int (s 27 1))]) (st' := [.ref 10]) (fun _ => rfl) ?_
    refine t_gr (rfl : mfetch 56 20 = some (20, .getfield 43, 3, 4, 6, 0)) rfl rfl ?_
    refine mEnds.stp 1 (pc' := 24) (l' := [some (.ref 10), some (.int x1), some (.int (s 27 1))]) (st' := [.int x1, .ref 27]) (fun _ => rfl) ?_
    obtain ⟨s1, hs1, hf⟩ := ob hf
    refine t_pi (rfl : mfetch 56 24 = some (24, .putfield 56, 3, 3, 1, 0)) rfl rfl rfl rfl hs1 ?_
    refine mEnds.stp 1 (pc' := 28) (l' := [some (.ref 10), some (.int x1), some (.int (s 27 1))]) (st' := [.int (s 27 1)]) (fun _ => rfl) ?_
    exact mEnds.rti (Option.some.inj hf) (fun _ => rfl)
def C_text_55 : Nat → Int32 → sg → Option (Int32 × sg)
  | 0, _, _ => none
  | fu + 1, x2, s =>
  if x2 < nI 2 then
    (midx x2 2).bind fun j1 =>
    (some (up s 20 j1 (vp_nar .boolean (nI 0)))).bind fun s1 =>
    C_text_55 fu (x2 + (nI 1)) s1
  else
    some (s 27 5, s)
set_option maxRecDepth 100000 in
theorem ok_C_text_55 : ∀ (fu : Nat) (x2 : Int32) (s : sg) (rv : (Int32 × sg)), C_text_55 fu x2 s = some rv → mEnds [] 6 57 (55, [some (.ref 10), none, some (.int x2)], [], hp shC s, 0, 0) (some (.int rv.1), hp shC rv.2, 0, 0)
  | 0, _, _, _, hf => by cases hf
  | fu + 1, x2, s, rv, hf => by
    rw [C_text_55] at hf
    refine mEnds.stp 2 (pc' := 57) (l' := [some (.ref 10), none, some (.int x2)]) (st' := [.int (nI 2), .int x2]) (fun _ => rfl) ?_
    by_cases hc1 : x2 < nI 2
    · rw [if_pos hc1] at hf
      refine t_cF (rfl : mfetch 57 57 = some (57, .if_icmp .ge 16, 3, 0, 0, 0)) (k_ge' hc1) ?_
      refine mEnds.stp 1 (pc' := 61) (l' := [some (.ref 10), none, some (.int x2)]) (st' := [.ref 10]) (fun _ => rfl) ?_
      refine t_gr (rfl : mfetch 57 61 = some (61, .getfield 20, 3, 4, 2, 0)) rfl rfl ?_
      refine mEnds.stp 2 (pc' := 66) (l' := [some (.ref 10), none, some (.int x2)]) (st' := [.int (nI 0), .int x2, .ref 20]) (fun _ => rfl) ?_
      obtain ⟨j1, hj1, hf⟩ := ob hf
      obtain ⟨s1, hs1, hf⟩ := ob hf
      refine t_zs (rfl : mfetch 57 66 = some (66, .bastore, 1, 0, 0, 0)) rfl rfl hj1 hs1 ?_
      refine mEnds.stp 2 (pc' := 55) (l' := [some (.ref 10), none, some (.int (x2 + (nI 1)))]) (st' := []) (fun _ => rfl) ?_
      refine mEnds.cut (l := [some (.ref 10), none, some (.int (x2 + (nI 1)))]) ⟨rfl, ⟨rfl, trivial⟩⟩ ?_
      exact ok_C_text_55 fu (x2 + (nI 1)) s1 _ hf
    · rw [if_neg hc1] at hf
      refine t_cT (t := 73) (rfl : mfetch 57 57 = some (57, .if_icmp .ge 16, 3, 0, 0, 0)) rfl (k_ge hc1) ?_
      refine mEnds.stp 1 (pc' := 74) (l' := [some (.ref 10), none, some (.int x2)]) (st' := [.ref 10]) (fun _ => rfl) ?_
      refine t_gr (rfl : mfetch 57 74 = some (74, .getfield 43, 3, 4, 6, 0)) rfl rfl ?_
      refine t_gi (rfl : mfetch 57 77 = some (77, .getfield 77, 3, 3, 5, 0)) rfl rfl ?_
      exact mEnds.rti (Option.some.inj hf) (fun _ => rfl)
def C_text (s : sg) : Option (Int32 × sg) :=
  (T_tell s).bind fun v1 =>
  (some (up v1.2 27 1 (nI 0))).bind fun s1 =>
  if v1.1 = 0 then
    some ((-10) - (s1 27 4), s1)
  else
    (H_copyFrom 11 29 s1).bind fun s2 =>
    (some (up s2 23 3 (nI 0))).bind fun s3 =>
    C_text_55 FU (nI 0) s3
set_option maxRecDepth 100000 in
theorem ok_C_text {s : sg} {rv : (Int32 × sg)} (hf : C_text s = some rv) : mEnds [] 6 57 (0, [some (.ref 10), none, none], [], hp shC s, 0, 0) (some (.int rv.1), hp shC rv.2, 0, 0) := by
  unfold C_text at hf
  refine mEnds.stp 1 (pc' := 1) (l' := [some (.ref 10), none, none]) (st' := [.ref 10]) (fun _ => rfl) ?_
  refine t_gr (rfl : mfetch 57 1 = some (1, .getfield 43, 3, 4, 6, 0)) rfl rfl ?_
  obtain ⟨v1, hv1, hf⟩ := ob hf
  refine t_cv (as := []) (st := []) (rfl : mfetch 57 4 = some (4, .invokevirtual 60, 3, 37, 0, 0)) rfl rfl rfl rfl rfl (ok_T_tell hv1) ?_
  refine mEnds.stp 2 (pc' := 9) (l' := [some (.ref 10), some (.int v1.1), none]) (st' := [.ref 10]) (fun _ => rfl) ?_
  refine t_gr (rfl : mfetch 57 9 = some (9, .getfield 43, 3, 4, 6, 0)) rfl rfl ?_
  refine mEnds.stp 1 (pc' := 13) (l' := [some (.ref 10), some (.int v1.1), none]) (st' := [.int (nI 0), .ref 27]) (fun _ => rfl) ?_
  obtain ⟨s1, hs1, hf⟩ := ob hf
  refine t_pi (rfl : mfetch 57 13 = some (13, .putfield 56, 3, 3, 1, 0)) rfl rfl rfl rfl hs1 ?_
  refine mEnds.stp 1 (pc' := 17) (l' := [some (.ref 10), some (.int v1.1), none]) (st' := [.int v1.1]) (fun _ => rfl) ?_
  by_cases hc1 : v1.1 = 0
  · rw [if_pos hc1] at hf
    refine t_jF (rfl : mfetch 57 17 = some (17, .ifCond .ne 14, 3, 0, 0, 0)) (k_ne' hc1) ?_
    refine mEnds.stp 2 (pc' := 23) (l' := [some (.ref 10), some (.int v1.1), none]) (st' := [.ref 10, .int (-10)]) (fun _ => rfl) ?_
    refine t_gr (rfl : mfetch 57 23 = some (23, .getfield 43, 3, 4, 6, 0)) rfl rfl ?_
    refine t_gi (rfl : mfetch 57 26 = some (26, .getfield 64, 3, 3, 4, 0)) rfl rfl ?_
    refine mEnds.stp 1 (pc' := 30) (l' := [some (.ref 10), some (.int v1.1), none]) (st' := [.int ((-10) - (s1 27 4))]) (fun _ => rfl) ?_
    exact mEnds.rti (Option.some.inj hf) (fun _ => rfl)
  · rw [if_neg hc1] at hf
    refine t_jT (t := 31) (rfl : mfetch 57 17 = some (17, .ifCond .ne 14, 3, 0, 0, 0)) rfl (k_ne hc1) ?_
    refine mEnds.stp 1 (pc' := 32) (l' := [some (.ref 10), some (.int v1.1), none]) (st' := [.ref 10]) (fun _ => rfl) ?_
    refine t_gr (rfl : mfetch 57 32 = some (32, .getfield 10, 3, 4, 0, 0)) rfl rfl ?_
    refine mEnds.stp 1 (pc' := 36) (l' := [some (.ref 10), some (.int v1.1), none]) (st' := [.ref 10, .ref 11]) (fun _ => rfl) ?_
    refine t_gr (rfl : mfetch 57 36 = some (36, .getfield 43, 3, 4, 6, 0)) rfl rfl ?_
    refine t_gr (rfl : mfetch 57 39 = some (39, .getfield 67, 3, 3, 2, 0)) rfl rfl ?_
    obtain ⟨s2, hs2, hf⟩ := ob hf
    refine t_cv (as := [.ref 29]) (st := []) (rfl : mfetch 57 42 = some (42, .invokevirtual 70, 3, 7, 0, 0)) rfl rfl rfl rfl rfl ((ok_H_copyFrom isH_11 isH_29 hs2).deep 5) ?_
    refine mEnds.stp 1 (pc' := 46) (l' := [some (.ref 10), some (.int v1.1), none]) (st' := [.ref 10]) (fun _ => rfl) ?_
    refine t_gr (rfl : mfetch 57 46 = some (46, .getfield 36, 3, 4, 5, 0)) rfl rfl ?_
    refine mEnds.stp 1 (pc' := 50) (l' := [some (.ref 10), some (.int v1.1), none]) (st' := [.int (nI 0), .ref 23]) (fun _ => rfl) ?_
    obtain ⟨s3, hs3, hf⟩ := ob hf
    refine t_pi (rfl : mfetch 57 50 = some (50, .putfield 74, 3, 0, 3, 0)) rfl rfl rfl rfl hs3 ?_
    refine mEnds.stp 2 (pc' := 55) (l' := [some (.ref 10), some (.int v1.1), some (.int (nI 0))]) (st' := []) (fun _ => rfl) ?_
    refine mEnds.cut (l := [some (.ref 10), none, some (.int (nI 0))]) ⟨rfl, ⟨rfl, trivial⟩⟩ ?_
    exact ok_C_text_55 FU (nI 0) s3 _ hf
def C_fault (s : sg) : Option Int32 :=
  some (s 27 3)
set_option maxRecDepth 100000 in
theorem ok_C_fault {s : sg} {rv : Int32} (hf : C_fault s = some rv) : mEnds [] 0 58 (0, [some (.ref 10)], [], hp shC s, 0, 0) (some (.int rv), hp shC s, 0, 0) := by
  unfold C_fault at hf
  refine mEnds.stp 1 (pc' := 1) (l' := [some (.ref 10)]) (st' := [.ref 10]) (fun _ => rfl) ?_
  refine t_gr (rfl : mfetch 58 1 = some (1, .getfield 43, 3, 4, 6, 0)) rfl rfl ?_
  refine t_gi (rfl : mfetch 58 4 = some (4, .getfield 80, 3, 3, 3, 0)) rfl rfl ?_
  cases hf; exact mEnds.rt (fun _ => rfl)
def C_rule (x1 : Int32) (s : sg) : Option Int32 :=
  if x1 = nI 0 then
    some (s 11 0)
  else
    if x1 = nI 1 then
      some (s 11 2)
    else
      if x1 = nI 2 then
        some (s 11 3)
      else
        if x1 = nI 3 then
          some (s 11 4)
        else
          if x1 = nI 4 then
            (H_warmthOfAll 11 s).bind fun v1 =>
            some v1
          else
            if x1 = nI 5 then
              some (s 11 1)
            else
              if x1 = nI 6 then
                (H_skyNow 11 s).bind fun v2 =>
                some v2
              else
                some (-1)
set_option maxRecDepth 100000 in
theorem ok_C_rule {x1 : Int32} {s : sg} {rv : Int32} (hf : C_rule x1 s = some rv) : mEnds [] 2 59 (0, [some (.ref 10), some (.int x1)], [], hp shC s, 0, 0) (some (.int rv), hp shC s, 0, 0) := by
  unfold C_rule at hf
  refine mEnds.stp 1 (pc' := 1) (l' := [some (.ref 10), some (.int x1)]) (st' := [.int x1]) (fun _ => rfl) ?_
  by_cases hc1 : x1 = nI 0
  · rw [if_pos hc1] at hf
    refine t_sw hc1 (fun _ _ _ => rfl) (t := 44) ?_
    refine mEnds.stp 1 (pc' := 45) (l' := [some (.ref 10), some (.int x1)]) (st' := [.ref 10]) (fun _ => rfl) ?_
    refine t_gr (rfl : mfetch 59 45 = some (45, .getfield 10, 3, 4, 0, 0)) rfl rfl ?_
    refine t_gi (rfl : mfetch 59 48 = some (48, .getfield 83, 3, 1, 0, 0)) rfl rfl ?_
    cases hf; exact mEnds.rt (fun _ => rfl)
  · rw [if_neg hc1] at hf
    by_cases hc2 : x1 = nI 1
    · rw [if_pos hc2] at hf
      refine t_sw hc2 (fun _ _ _ => rfl) (t := 52) ?_
      refine mEnds.stp 1 (pc' := 53) (l' := [some (.ref 10), some (.int x1)]) (st' := [.ref 10]) (fun _ => rfl) ?_
      refine t_gr (rfl : mfetch 59 53 = some (53, .getfield 10, 3, 4, 0, 0)) rfl rfl ?_
      refine t_gi (rfl : mfetch 59 56 = some (56, .getfield 86, 3, 1, 2, 0)) rfl rfl ?_
      cases hf; exact mEnds.rt (fun _ => rfl)
    · rw [if_neg hc2] at hf
      by_cases hc3 : x1 = nI 2
      · rw [if_pos hc3] at hf
        refine t_sw hc3 (fun _ _ _ => rfl) (t := 60) ?_
        refine mEnds.stp 1 (pc' := 61) (l' := [some (.ref 10), some (.int x1)]) (st' := [.ref 10]) (fun _ => rfl) ?_
        refine t_gr (rfl : mfetch 59 61 = some (61, .getfield 10, 3, 4, 0, 0)) rfl rfl ?_
        refine t_gi (rfl : mfetch 59 64 = some (64, .getfield 89, 3, 1, 3, 0)) rfl rfl ?_
        cases hf; exact mEnds.rt (fun _ => rfl)
      · rw [if_neg hc3] at hf
        by_cases hc4 : x1 = nI 3
        · rw [if_pos hc4] at hf
          refine t_sw hc4 (fun _ _ _ => rfl) (t := 68) ?_
          refine mEnds.stp 1 (pc' := 69) (l' := [some (.ref 10), some (.int x1)]) (st' := [.ref 10]) (fun _ => rfl) ?_
          refine t_gr (rfl : mfetch 59 69 = some (69, .getfield 10, 3, 4, 0, 0)) rfl rfl ?_
          refine t_gi (rfl : mfetch 59 72 = some (72, .getfield 92, 3, 1, 4, 0)) rfl rfl ?_
          cases hf; exact mEnds.rt (fun _ => rfl)
        · rw [if_neg hc4] at hf
          by_cases hc5 : x1 = nI 4
          · rw [if_pos hc5] at hf
            refine t_sw hc5 (fun _ _ _ => rfl) (t := 76) ?_
            refine mEnds.stp 1 (pc' := 77) (l' := [some (.ref 10), some (.int x1)]) (st' := [.ref 10]) (fun _ => rfl) ?_
            refine t_gr (rfl : mfetch 59 77 = some (77, .getfield 10, 3, 4, 0, 0)) rfl rfl ?_
            obtain ⟨v1, hv1, hf⟩ := ob hf
            refine t_cv (as := []) (st := []) (rfl : mfetch 59 80 = some (80, .invokevirtual 95, 3, 15, 0, 0)) rfl rfl rfl rfl rfl (ok_H_warmthOfAll isH_11 hv1) ?_
            cases hf; exact mEnds.rt (fun _ => rfl)
          · rw [if_neg hc5] at hf
            by_cases hc6 : x1 = nI 5
            · rw [if_pos hc6] at hf
              refine t_sw hc6 (fun _ _ _ => rfl) (t := 84) ?_
              refine mEnds.stp 1 (pc' := 85) (l' := [some (.ref 10), some (.int x1)]) (st' := [.ref 10]) (fun _ => rfl) ?_
              refine t_gr (rfl : mfetch 59 85 = some (85, .getfield 10, 3, 4, 0, 0)) rfl rfl ?_
              refine t_gi (rfl : mfetch 59 88 = some (88, .getfield 99, 3, 1, 1, 0)) rfl rfl ?_
              cases hf; exact mEnds.rt (fun _ => rfl)
            · rw [if_neg hc6] at hf
              by_cases hc7 : x1 = nI 6
              · rw [if_pos hc7] at hf
                refine t_sw hc7 (fun _ _ _ => rfl) (t := 92) ?_
                refine mEnds.stp 1 (pc' := 93) (l' := [some (.ref 10), some (.int x1)]) (st' := [.ref 10]) (fun _ => rfl) ?_
                refine t_gr (rfl : mfetch 59 93 = some (93, .getfield 10, 3, 4, 0, 0)) rfl rfl ?_
                obtain ⟨v2, hv2, hf⟩ := ob hf
                refine t_cv (as := []) (st := []) (rfl : mfetch 59 96 = some (96, .invokevirtual 102, 3, 14, 0, 0)) rfl rfl rfl rfl rfl ((ok_H_skyNow isH_11 hv2).deep 1) ?_
                cases hf; exact mEnds.rt (fun _ => rfl)
              · rw [if_neg hc7] at hf
                refine t_swD (t := 100) (rfl : mfetch 59 1 = some (1, .tableswitch 99 0 6 #[43, 51, 59, 67, 75, 83, 91], 43, 0, 0, 0)) rfl (sw_out (fun k hk => match k, hk with | 0, _ => hc1 | 1, _ => hc2 | 2, _ => hc3 | 3, _ => hc4 | 4, _ => hc5 | 5, _ => hc6 | 6, _ => hc7 | k + 7, hk => absurd hk (by omega))) ?_
                refine mEnds.stp 1 (pc' := 101) (l' := [some (.ref 10), some (.int x1)]) (st' := [.int (-1)]) (fun _ => rfl) ?_
                cases hf; exact mEnds.rt (fun _ => rfl)
def C_ofTongue (x1 : Int32) (x2 : Int32) (s : sg) : Option Int32 :=
  if x2 = nI 3 then
    (midx x1 6).bind fun j1 =>
    some (s 15 j1)
  else
    if x2 = nI 4 then
      (midx x1 6).bind fun j2 =>
      some (s 16 j2)
    else
      if x2 = nI 5 then
        (H_lowOf 11 x1 s).bind fun v1 =>
        some ((nI 10) + v1)
      else
        (H_highOf 11 x1 s).bind fun v2 =>
        some v2
set_option maxRecDepth 100000 in
theorem ok_C_ofTongue {x1 : Int32} {x2 : Int32} {s : sg} {rv : Int32} (hf : C_ofTongue x1 x2 s = some rv) : mEnds [] 1 61 (0, [some (.ref 10), some (.int x1), some (.int x2)], [], hp shC s, 0, 0) (some (.int rv), hp shC s, 0, 0) := by
  unfold C_ofTongue at hf
  refine mEnds.stp 1 (pc' := 1) (l' := [some (.ref 10), some (.int x1), some (.int x2)]) (st' := [.int x2]) (fun _ => rfl) ?_
  by_cases hc1 : x2 = nI 3
  · rw [if_pos hc1] at hf
    refine t_sw hc1 (fun _ _ _ => rfl) (t := 28) ?_
    refine mEnds.stp 1 (pc' := 29) (l' := [some (.ref 10), some (.int x1), some (.int x2)]) (st' := [.ref 10]) (fun _ => rfl) ?_
    refine t_gr (rfl : mfetch 61 29 = some (29, .getfield 10, 3, 4, 0, 0)) rfl rfl ?_
    refine t_gr (rfl : mfetch 61 32 = some (32, .getfield 128, 3, 1, 8, 0)) rfl rfl ?_
    refine mEnds.stp 1 (pc' := 36) (l' := [some (.ref 10), some (.int x1), some (.int x2)]) (st' := [.int x1, .ref 15]) (fun _ => rfl) ?_
    obtain ⟨j1, hj1, hf⟩ := ob hf
    refine t_ia (rfl : mfetch 61 36 = some (36, .iaload, 1, 0, 0, 0)) rfl rfl hj1 ?_
    cases hf; exact mEnds.rt (fun _ => rfl)
  · rw [if_neg hc1] at hf
    by_cases hc2 : x2 = nI 4
    · rw [if_pos hc2] at hf
      refine t_sw hc2 (fun _ _ _ => rfl) (t := 38) ?_
      refine mEnds.stp 1 (pc' := 39) (l' := [some (.ref 10), some (.int x1), some (.int x2)]) (st' := [.ref 10]) (fun _ => rfl) ?_
      refine t_gr (rfl : mfetch 61 39 = some (39, .getfield 10, 3, 4, 0, 0)) rfl rfl ?_
      refine t_gr (rfl : mfetch 61 42 = some (42, .getfield 131, 3, 1, 9, 0)) rfl rfl ?_
      refine mEnds.stp 1 (pc' := 46) (l' := [some (.ref 10), some (.int x1), some (.int x2)]) (st' := [.int x1, .ref 16]) (fun _ => rfl) ?_
      obtain ⟨j2, hj2, hf⟩ := ob hf
      refine t_ia (rfl : mfetch 61 46 = some (46, .iaload, 1, 0, 0, 0)) rfl rfl hj2 ?_
      cases hf; exact mEnds.rt (fun _ => rfl)
    · rw [if_neg hc2] at hf
      by_cases hc3 : x2 = nI 5
      · rw [if_pos hc3] at hf
        refine t_sw hc3 (fun _ _ _ => rfl) (t := 48) ?_
        refine mEnds.stp 2 (pc' := 51) (l' := [some (.ref 10), some (.int x1), some (.int x2)]) (st' := [.ref 10, .int (nI 10)]) (fun _ => rfl) ?_
        refine t_gr (rfl : mfetch 61 51 = some (51, .getfield 10, 3, 4, 0, 0)) rfl rfl ?_
        refine mEnds.stp 1 (pc' := 55) (l' := [some (.ref 10), some (.int x1), some (.int x2)]) (st' := [.int x1, .ref 11, .int (nI 10)]) (fun _ => rfl) ?_
        obtain ⟨v1, hv1, hf⟩ := ob hf
        refine t_cv (as := [.int x1]) (st := [.int (nI 10)]) (rfl : mfetch 61 55 = some (55, .invokevirtual 134, 3, 12, 0, 0)) rfl rfl rfl rfl rfl (ok_H_lowOf isH_11 hv1) ?_
        refine mEnds.stp 1 (pc' := 59) (l' := [some (.ref 10), some (.int x1), some (.int x2)]) (st' := [.int ((nI 10) + v1)]) (fun _ => rfl) ?_
        cases hf; exact mEnds.rt (fun _ => rfl)
      · rw [if_neg hc3] at hf
        refine t_swD (t := 60) (rfl : mfetch 61 1 = some (1, .tableswitch 59 3 5 #[27, 37, 47], 27, 0, 0, 0)) rfl (sw_out (fun k hk => match k, hk with | 0, _ => hc1 | 1, _ => hc2 | 2, _ => hc3 | k + 3, hk => absurd hk (by omega))) ?_
        refine mEnds.stp 1 (pc' := 61) (l' := [some (.ref 10), some (.int x1), some (.int x2)]) (st' := [.ref 10]) (fun _ => rfl) ?_
        refine t_gr (rfl : mfetch 61 61 = some (61, .getfield 10, 3, 4, 0, 0)) rfl rfl ?_
        refine mEnds.stp 1 (pc' := 65) (l' := [some (.ref 10), some (.int x1), some (.int x2)]) (st' := [.int x1, .ref 11]) (fun _ => rfl) ?_
        obtain ⟨v2, hv2, hf⟩ := ob hf
        refine t_cv (as := [.int x1]) (st := []) (rfl : mfetch 61 65 = some (65, .invokevirtual 138, 3, 13, 0, 0)) rfl rfl rfl rfl rfl (ok_H_highOf isH_11 hv2) ?_
        cases hf; exact mEnds.rt (fun _ => rfl)
end Q30d
section Q30e
def C_room (x1 : Int32) (x2 : Int32) (s : sg) : Option Int32 :=
  (H_hasRoom 11 x1 s).bind fun v1 =>
  if v1 = 0 then
    some (-1)
  else
    (C_within x2 (nI 0) (nI 7) s).bind fun v2 =>
    if v2 = 0 then
      some (-1)
    else
      if x2 = nI 0 then
        (midx x1 6).bind fun j1 =>
        some (s 12 j1)
      else
        if x2 = nI 1 then
          (midx x1 6).bind fun j2 =>
          some (s 13 j2)
        else
          if x2 = nI 2 then
            (midx x1 6).bind fun j3 =>
            some (s 14 j3)
          else
            if x2 = nI 3 then
              (H_hasTongue 11 x1 s).bind fun v3 =>
              if v3 = 0 then
                some (-4)
              else
                (C_ofTongue x1 x2 s).bind fun v4 =>
                some v4
            else
              if x2 = nI 4 then
                (H_hasTongue 11 x1 s).bind fun v5 =>
                if v5 = 0 then
                  some (-4)
                else
                  (C_ofTongue x1 x2 s).bind fun v6 =>
                  some v6
              else
                if x2 = nI 5 then
                  (H_hasTongue 11 x1 s).bind fun v7 =>
                  if v7 = 0 then
                    some (-4)
                  else
                    (C_ofTongue x1 x2 s).bind fun v8 =>
                    some v8
                else
                  if x2 = nI 6 then
                    (H_hasTongue 11 x1 s).bind fun v9 =>
                    if v9 = 0 then
                      some (-4)
                    else
                      (C_ofTongue x1 x2 s).bind fun v10 =>
                      some v10
                  else
                    if x2 = nI 7 then
                      (H_isOn 11 x1 s).bind fun v11 =>
                      if v11 = 0 then
                        some (nI 0)
                      else
                        some (nI 1)
                    else
                      (H_hasTongue 11 x1 s).bind fun v12 =>
                      if v12 = 0 then
                        some (-4)
                      else
                        (C_ofTongue x1 x2 s).bind fun v13 =>
                        some v13
set_option maxRecDepth 100000 in
theorem ok_C_room {x1 : Int32} {x2 : Int32} {s : sg} {rv : Int32} (hf : C_room x1 x2 s = some rv) : mEnds [] 2 60 (0, [some (.ref 10), some (.int x1), some (.int x2)], [], hp shC s, 0, 0) (some (.int rv), hp shC s, 0, 0) := by
  unfold C_room at hf
  refine mEnds.stp 1 (pc' := 1) (l' := [some (.ref 10), some (.int x1), some (.int x2)]) (st' := [.ref 10]) (fun _ => rfl) ?_
  refine t_gr (rfl : mfetch 60 1 = some (1, .getfield 10, 3, 4, 0, 0)) rfl rfl ?_
  refine mEnds.stp 1 (pc' := 5) (l' := [some (.ref 10), some (.int x1), some (.int x2)]) (st' := [.int x1, .ref 11]) (fun _ => rfl) ?_
  obtain ⟨v1, hv1, hf⟩ := ob hf
  refine t_cv (as := [.int x1]) (st := []) (rfl : mfetch 60 5 = some (5, .invokevirtual 105, 3, 8, 0, 0)) rfl rfl rfl rfl rfl ((ok_H_hasRoom isH_11 hv1).deep 1) ?_
  by_cases hc1 : v1 = 0
  · rw [if_pos hc1] at hf
    refine t_jT (t := 21) (rfl : mfetch 60 8 = some (8, .ifCond .eq 13, 3, 0, 0, 0)) rfl (k_eq hc1) ?_
    refine mEnds.stp 1 (pc' := 22) (l' := [some (.ref 10), some (.int x1), some (.int x2)]) (st' := [.int (-1)]) (fun _ => rfl) ?_
    cases hf; exact mEnds.rt (fun _ => rfl)
  · rw [if_neg hc1] at hf
    refine t_jF (rfl : mfetch 60 8 = some (8, .ifCond .eq 13, 3, 0, 0, 0)) (k_eq' hc1) ?_
    refine mEnds.stp 3 (pc' := 15) (l' := [some (.ref 10), some (.int x1), some (.int x2)]) (st' := [.int (nI 7), .int (nI 0), .int x2]) (fun _ => rfl) ?_
    obtain ⟨v2, hv2, hf⟩ := ob hf
    refine t_cs (as := [.int x2, .int (nI 0), .int (nI 7)]) (st := []) (Or.inl rfl) (rfl : mfetch 60 15 = some (15, .invokestatic 48, 3, 105, 0, 0)) rfl rfl rfl ((ok_C_within hv2).deep 1) ?_
    by_cases hc2 : v2 = 0
    · rw [if_pos hc2] at hf
      refine t_jF (rfl : mfetch 60 18 = some (18, .ifCond .ne 5, 3, 0, 0, 0)) (k_ne' hc2) ?_
      refine mEnds.stp 1 (pc' := 22) (l' := [some (.ref 10), some (.int x1), some (.int x2)]) (st' := [.int (-1)]) (fun _ => rfl) ?_
      cases hf; exact mEnds.rt (fun _ => rfl)
    · rw [if_neg hc2] at hf
      refine t_jT (t := 23) (rfl : mfetch 60 18 = some (18, .ifCond .ne 5, 3, 0, 0, 0)) rfl (k_ne hc2) ?_
      refine mEnds.stp 1 (pc' := 24) (l' := [some (.ref 10), some (.int x1), some (.int x2)]) (st' := [.int x2]) (fun _ => rfl) ?_
      by_cases hc3 : x2 = nI 0
      · rw [if_pos hc3] at hf
        refine t_sw hc3 (fun _ _ _ => rfl) (t := 72) ?_
        refine mEnds.stp 1 (pc' := 73) (l' := [some (.ref 10), some (.int x1), some (.int x2)]) (st' := [.ref 10]) (fun _ => rfl) ?_
        refine t_gr (rfl : mfetch 60 73 = some (73, .getfield 10, 3, 4, 0, 0)) rfl rfl ?_
        refine t_gr (rfl : mfetch 60 76 = some (76, .getfield 108, 3, 1, 5, 0)) rfl rfl ?_
        refine mEnds.stp 1 (pc' := 80) (l' := [some (.ref 10), some (.int x1), some (.int x2)]) (st' := [.int x1, .ref 12]) (fun _ => rfl) ?_
        obtain ⟨j1, hj1, hf⟩ := ob hf
        refine t_ia (rfl : mfetch 60 80 = some (80, .iaload, 1, 0, 0, 0)) rfl rfl hj1 ?_
        cases hf; exact mEnds.rt (fun _ => rfl)
      · rw [if_neg hc3] at hf
        by_cases hc4 : x2 = nI 1
        · rw [if_pos hc4] at hf
          refine t_sw hc4 (fun _ _ _ => rfl) (t := 82) ?_
          refine mEnds.stp 1 (pc' := 83) (l' := [some (.ref 10), some (.int x1), some (.int x2)]) (st' := [.ref 10]) (fun _ => rfl) ?_
          refine t_gr (rfl : mfetch 60 83 = some (83, .getfield 10, 3, 4, 0, 0)) rfl rfl ?_
          refine t_gr (rfl : mfetch 60 86 = some (86, .getfield 112, 3, 1, 6, 0)) rfl rfl ?_
          refine mEnds.stp 1 (pc' := 90) (l' := [some (.ref 10), some (.int x1), some (.int x2)]) (st' := [.int x1, .ref 13]) (fun _ => rfl) ?_
          obtain ⟨j2, hj2, hf⟩ := ob hf
          refine t_ia (rfl : mfetch 60 90 = some (90, .iaload, 1, 0, 0, 0)) rfl rfl hj2 ?_
          cases hf; exact mEnds.rt (fun _ => rfl)
        · rw [if_neg hc4] at hf
          by_cases hc5 : x2 = nI 2
          · rw [if_pos hc5] at hf
            refine t_sw hc5 (fun _ _ _ => rfl) (t := 92) ?_
            refine mEnds.stp 1 (pc' := 93) (l' := [some (.ref 10), some (.int x1), some (.int x2)]) (st' := [.ref 10]) (fun _ => rfl) ?_
            refine t_gr (rfl : mfetch 60 93 = some (93, .getfield 10, 3, 4, 0, 0)) rfl rfl ?_
            refine t_gr (rfl : mfetch 60 96 = some (96, .getfield 115, 3, 1, 7, 0)) rfl rfl ?_
            refine mEnds.stp 1 (pc' := 100) (l' := [some (.ref 10), some (.int x1), some (.int x2)]) (st' := [.int x1, .ref 14]) (fun _ => rfl) ?_
            obtain ⟨j3, hj3, hf⟩ := ob hf
            refine t_ia (rfl : mfetch 60 100 = some (100, .iaload, 1, 0, 0, 0)) rfl rfl hj3 ?_
            cases hf; exact mEnds.rt (fun _ => rfl)
          · rw [if_neg hc5] at hf
            by_cases hc6 : x2 = nI 3
            · rw [if_pos hc6] at hf
              refine t_sw hc6 (fun _ _ _ => rfl) (t := 119) ?_
              refine mEnds.stp 1 (pc' := 120) (l' := [some (.ref 10), some (.int x1), some (.int x2)]) (st' := [.ref 10]) (fun _ => rfl) ?_
              refine t_gr (rfl : mfetch 60 120 = some (120, .getfield 10, 3, 4, 0, 0)) rfl rfl ?_
              refine mEnds.stp 1 (pc' := 124) (l' := [some (.ref 10), some (.int x1), some (.int x2)]) (st' := [.int x1, .ref 11]) (fun _ => rfl) ?_
              obtain ⟨v3, hv3, hf⟩ := ob hf
              refine t_cv (as := [.int x1]) (st := []) (rfl : mfetch 60 124 = some (124, .invokevirtual 121, 3, 10, 0, 0)) rfl rfl rfl rfl rfl ((ok_H_hasTongue isH_11 hv3).deep 1) ?_
              by_cases hc7 : v3 = 0
              · rw [if_pos hc7] at hf
                refine t_jT (t := 139) (rfl : mfetch 60 127 = some (127, .ifCond .eq 12, 3, 0, 0, 0)) rfl (k_eq hc7) ?_
                refine mEnds.stp 1 (pc' := 141) (l' := [some (.ref 10), some (.int x1), some (.int x2)]) (st' := [.int (-4)]) (fun _ => rfl) ?_
                cases hf; exact mEnds.rt (fun _ => rfl)
              · rw [if_neg hc7] at hf
                refine t_jF (rfl : mfetch 60 127 = some (127, .ifCond .eq 12, 3, 0, 0, 0)) (k_eq' hc7) ?_
                refine mEnds.stp 3 (pc' := 133) (l' := [some (.ref 10), some (.int x1), some (.int x2)]) (st' := [.int x2, .int x1, .ref 10]) (fun _ => rfl) ?_
                obtain ⟨v4, hv4, hf⟩ := ob hf
                refine t_cv (as := [.int x1, .int x2]) (st := []) (rfl : mfetch 60 133 = some (133, .invokevirtual 124, 3, 61, 0, 0)) rfl rfl rfl rfl rfl (ok_C_ofTongue hv4) ?_
                refine mEnds.stp 1 (pc' := 141) (l' := [some (.ref 10), some (.int x1), some (.int x2)]) (st' := [.int v4]) (fun _ => rfl) ?_
                cases hf; exact mEnds.rt (fun _ => rfl)
            · rw [if_neg hc6] at hf
              by_cases hc8 : x2 = nI 4
              · rw [if_pos hc8] at hf
                refine t_sw hc8 (fun _ _ _ => rfl) (t := 119) ?_
                refine mEnds.stp 1 (pc' := 120) (l' := [some (.ref 10), some (.int x1), some (.int x2)]) (st' := [.ref 10]) (fun _ => rfl) ?_
                refine t_gr (rfl : mfetch 60 120 = some (120, .getfield 10, 3, 4, 0, 0)) rfl rfl ?_
                refine mEnds.stp 1 (pc' := 124) (l' := [some (.ref 10), some (.int x1), some (.int x2)]) (st' := [.int x1, .ref 11]) (fun _ => rfl) ?_
                obtain ⟨v5, hv5, hf⟩ := ob hf
                refine t_cv (as := [.int x1]) (st := []) (rfl : mfetch 60 124 = some (124, .invokevirtual 121, 3, 10, 0, 0)) rfl rfl rfl rfl rfl ((ok_H_hasTongue isH_11 hv5).deep 1) ?_
                by_cases hc9 : v5 = 0
                · rw [if_pos hc9] at hf
                  refine t_jT (t := 139) (rfl : mfetch 60 127 = some (127, .ifCond .eq 12, 3, 0, 0, 0)) rfl (k_eq hc9) ?_
                  refine mEnds.stp 1 (pc' := 141) (l' := [some (.ref 10), some (.int x1), some (.int x2)]) (st' := [.int (-4)]) (fun _ => rfl) ?_
                  cases hf; exact mEnds.rt (fun _ => rfl)
                · rw [if_neg hc9] at hf
                  refine t_jF (rfl : mfetch 60 127 = some (127, .ifCond .eq 12, 3, 0, 0, 0)) (k_eq' hc9) ?_
                  refine mEnds.stp 3 (pc' := 133) (l' := [some (.ref 10), some (.int x1), some (.int x2)]) (st' := [.int x2, .int x1, .ref 10]) (fun _ => rfl) ?_
                  obtain ⟨v6, hv6, hf⟩ := ob hf
                  refine t_cv (as := [.int x1, .int x2]) (st := []) (rfl : mfetch 60 133 = some (133, .invokevirtual 124, 3, 61, 0, 0)) rfl rfl rfl rfl rfl (ok_C_ofTongue hv6) ?_
                  refine mEnds.stp 1 (pc' := 141) (l' := [some (.ref 10), some (.int x1), some (.int x2)]) (st' := [.int v6]) (fun _ => rfl) ?_
                  cases hf; exact mEnds.rt (fun _ => rfl)
              · rw [if_neg hc8] at hf
                by_cases hc10 : x2 = nI 5
                · rw [if_pos hc10] at hf
                  refine t_sw hc10 (fun _ _ _ => rfl) (t := 119) ?_
                  refine mEnds.stp 1 (pc' := 120) (l' := [some (.ref 10), some (.int x1), some (.int x2)]) (st' := [.ref 10]) (fun _ => rfl) ?_
                  refine t_gr (rfl : mfetch 60 120 = some (120, .getfield 10, 3, 4, 0, 0)) rfl rfl ?_
                  refine mEnds.stp 1 (pc' := 124) (l' := [some (.ref 10), some (.int x1), some (.int x2)]) (st' := [.int x1, .ref 11]) (fun _ => rfl) ?_
                  obtain ⟨v7, hv7, hf⟩ := ob hf
                  refine t_cv (as := [.int x1]) (st := []) (rfl : mfetch 60 124 = some (124, .invokevirtual 121, 3, 10, 0, 0)) rfl rfl rfl rfl rfl ((ok_H_hasTongue isH_11 hv7).deep 1) ?_
                  by_cases hc11 : v7 = 0
                  · rw [if_pos hc11] at hf
                    refine t_jT (t := 139) (rfl : mfetch 60 127 = some (127, .ifCond .eq 12, 3, 0, 0, 0)) rfl (k_eq hc11) ?_
                    refine mEnds.stp 1 (pc' := 141) (l' := [some (.ref 10), some (.int x1), some (.int x2)]) (st' := [.int (-4)]) (fun _ => rfl) ?_
                    cases hf; exact mEnds.rt (fun _ => rfl)
                  · rw [if_neg hc11] at hf
                    refine t_jF (rfl : mfetch 60 127 = some (127, .ifCond .eq 12, 3, 0, 0, 0)) (k_eq' hc11) ?_
                    refine mEnds.stp 3 (pc' := 133) (l' := [some (.ref 10), some (.int x1), some (.int x2)]) (st' := [.int x2, .int x1, .ref 10]) (fun _ => rfl) ?_
                    obtain ⟨v8, hv8, hf⟩ := ob hf
                    refine t_cv (as := [.int x1, .int x2]) (st := []) (rfl : mfetch 60 133 = some (133, .invokevirtual 124, 3, 61, 0, 0)) rfl rfl rfl rfl rfl (ok_C_ofTongue hv8) ?_
                    refine mEnds.stp 1 (pc' := 141) (l' := [some (.ref 10), some (.int x1), some (.int x2)]) (st' := [.int v8]) (fun _ => rfl) ?_
                    cases hf; exact mEnds.rt (fun _ => rfl)
                · rw [if_neg hc10] at hf
                  by_cases hc12 : x2 = nI 6
                  · rw [if_pos hc12] at hf
                    refine t_sw hc12 (fun _ _ _ => rfl) (t := 119) ?_
                    refine mEnds.stp 1 (pc' := 120) (l' := [some (.ref 10), some (.int x1), some (.int x2)]) (st' := [.ref 10]) (fun _ => rfl) ?_
                    refine t_gr (rfl : mfetch 60 120 = some (120, .getfield 10, 3, 4, 0, 0)) rfl rfl ?_
                    refine mEnds.stp 1 (pc' := 124) (l' := [some (.ref 10), some (.int x1), some (.int x2)]) (st' := [.int x1, .ref 11]) (fun _ => rfl) ?_
                    obtain ⟨v9, hv9, hf⟩ := ob hf
                    refine t_cv (as := [.int x1]) (st := []) (rfl : mfetch 60 124 = some (124, .invokevirtual 121, 3, 10, 0, 0)) rfl rfl rfl rfl rfl ((ok_H_hasTongue isH_11 hv9).deep 1) ?_
                    by_cases hc13 : v9 = 0
                    · rw [if_pos hc13] at hf
                      refine t_jT (t := 139) (rfl : mfetch 60 127 = some (127, .ifCond .eq 12, 3, 0, 0, 0)) rfl (k_eq hc13) ?_
                      refine mEnds.stp 1 (pc' := 141) (l' := [some (.ref 10), some (.int x1), some (.int x2)]) (st' := [.int (-4)]) (fun _ => rfl) ?_
                      cases hf; exact mEnds.rt (fun _ => rfl)
                    · rw [if_neg hc13] at hf
                      refine t_jF (rfl : mfetch 60 127 = some (127, .ifCond .eq 12, 3, 0, 0, 0)) (k_eq' hc13) ?_
                      refine mEnds.stp 3 (pc' := 133) (l' := [some (.ref 10), some (.int x1), some (.int x2)]) (st' := [.int x2, .int x1, .ref 10]) (fun _ => rfl) ?_
                      obtain ⟨v10, hv10, hf⟩ := ob hf
                      refine t_cv (as := [.int x1, .int x2]) (st := []) (rfl : mfetch 60 133 = some (133, .invokevirtual 124, 3, 61, 0, 0)) rfl rfl rfl rfl rfl (ok_C_ofTongue hv10) ?_
                      refine mEnds.stp 1 (pc' := 141) (l' := [some (.ref 10), some (.int x1), some (.int x2)]) (st' := [.int v10]) (fun _ => rfl) ?_
                      cases hf; exact mEnds.rt (fun _ => rfl)
                  · rw [if_neg hc12] at hf
                    by_cases hc14 : x2 = nI 7
                    · rw [if_pos hc14] at hf
                      refine t_sw hc14 (fun _ _ _ => rfl) (t := 102) ?_
                      refine mEnds.stp 1 (pc' := 103) (l' := [some (.ref 10), some (.int x1), some (.int x2)]) (st' := [.ref 10]) (fun _ => rfl) ?_
                      refine t_gr (rfl : mfetch 60 103 = some (103, .getfield 10, 3, 4, 0, 0)) rfl rfl ?_
                      refine mEnds.stp 1 (pc' := 107) (l' := [some (.ref 10), some (.int x1), some (.int x2)]) (st' := [.int x1, .ref 11]) (fun _ => rfl) ?_
                      obtain ⟨v11, hv11, hf⟩ := ob hf
                      refine t_cv (as := [.int x1]) (st := []) (rfl : mfetch 60 107 = some (107, .invokevirtual 118, 3, 11, 0, 0)) rfl rfl rfl rfl rfl ((ok_H_isOn isH_11 hv11).deep 1) ?_
                      by_cases hc15 : v11 = 0
                      · rw [if_pos hc15] at hf
                        refine t_jT (t := 117) (rfl : mfetch 60 110 = some (110, .ifCond .eq 7, 3, 0, 0, 0)) rfl (k_eq hc15) ?_
                        refine mEnds.stp 1 (pc' := 118) (l' := [some (.ref 10), some (.int x1), some (.int x2)]) (st' := [.int (nI 0)]) (fun _ => rfl) ?_
                        cases hf; exact mEnds.rt (fun _ => rfl)
                      · rw [if_neg hc15] at hf
                        refine t_jF (rfl : mfetch 60 110 = some (110, .ifCond .eq 7, 3, 0, 0, 0)) (k_eq' hc15) ?_
                        refine mEnds.stp 2 (pc' := 118) (l' := [some (.ref 10), some (.int x1), some (.int x2)]) (st' := [.int (nI 1)]) (fun _ => rfl) ?_
                        cases hf; exact mEnds.rt (fun _ => rfl)
                    · rw [if_neg hc14] at hf
                      refine t_swD (t := 119) (rfl : mfetch 60 24 = some (24, .tableswitch 95 0 7 #[48, 58, 68, 95, 95, 95, 95, 78], 48, 0, 0, 0)) rfl (sw_out (fun k hk => match k, hk with | 0, _ => hc3 | 1, _ => hc4 | 2, _ => hc5 | 3, _ => hc6 | 4, _ => hc8 | 5, _ => hc10 | 6, _ => hc12 | 7, _ => hc14 | k + 8, hk => absurd hk (by omega))) ?_
                      refine mEnds.stp 1 (pc' := 120) (l' := [some (.ref 10), some (.int x1), some (.int x2)]) (st' := [.ref 10]) (fun _ => rfl) ?_
                      refine t_gr (rfl : mfetch 60 120 = some (120, .getfield 10, 3, 4, 0, 0)) rfl rfl ?_
                      refine mEnds.stp 1 (pc' := 124) (l' := [some (.ref 10), some (.int x1), some (.int x2)]) (st' := [.int x1, .ref 11]) (fun _ => rfl) ?_
                      obtain ⟨v12, hv12, hf⟩ := ob hf
                      refine t_cv (as := [.int x1]) (st := []) (rfl : mfetch 60 124 = some (124, .invokevirtual 121, 3, 10, 0, 0)) rfl rfl rfl rfl rfl ((ok_H_hasTongue isH_11 hv12).deep 1) ?_
                      by_cases hc16 : v12 = 0
                      · rw [if_pos hc16] at hf
                        refine t_jT (t := 139) (rfl : mfetch 60 127 = some (127, .ifCond .eq 12, 3, 0, 0, 0)) rfl (k_eq hc16) ?_
                        refine mEnds.stp 1 (pc' := 141) (l' := [some (.ref 10), some (.int x1), some (.int x2)]) (st' := [.int (-4)]) (fun _ => rfl) ?_
                        cases hf; exact mEnds.rt (fun _ => rfl)
                      · rw [if_neg hc16] at hf
                        refine t_jF (rfl : mfetch 60 127 = some (127, .ifCond .eq 12, 3, 0, 0, 0)) (k_eq' hc16) ?_
                        refine mEnds.stp 3 (pc' := 133) (l' := [some (.ref 10), some (.int x1), some (.int x2)]) (st' := [.int x2, .int x1, .ref 10]) (fun _ => rfl) ?_
                        obtain ⟨v13, hv13, hf⟩ := ob hf
                        refine t_cv (as := [.int x1, .int x2]) (st := []) (rfl : mfetch 60 133 = some (133, .invokevirtual 124, 3, 61, 0, 0)) rfl rfl rfl rfl rfl (ok_C_ofTongue hv13) ?_
                        refine mEnds.stp 1 (pc' := 141) (l' := [some (.ref 10), some (.int x1), some (.int x2)]) (st' := [.int v13]) (fun _ => rfl) ?_
                        cases hf; exact mEnds.rt (fun _ => rfl)
def C_wall (x1 : Int32) (s : sg) : Option Int32 :=
  (H_hasWall 11 x1 s).bind fun v1 =>
  if v1 = 0 then
    some (-1)
  else
    (midx x1 5).bind fun j1 =>
    some (s 17 j1)
set_option maxRecDepth 100000 in
theorem ok_C_wall {x1 : Int32} {s : sg} {rv : Int32} (hf : C_wall x1 s = some rv) : mEnds [] 1 62 (0, [some (.ref 10), some (.int x1)], [], hp shC s, 0, 0) (some (.int rv), hp shC s, 0, 0) := by
  unfold C_wall at hf
  refine mEnds.stp 1 (pc' := 1) (l' := [some (.ref 10), some (.int x1)]) (st' := [.ref 10]) (fun _ => rfl) ?_
  refine t_gr (rfl : mfetch 62 1 = some (1, .getfield 10, 3, 4, 0, 0)) rfl rfl ?_
  refine mEnds.stp 1 (pc' := 5) (l' := [some (.ref 10), some (.int x1)]) (st' := [.int x1, .ref 11]) (fun _ => rfl) ?_
  obtain ⟨v1, hv1, hf⟩ := ob hf
  refine t_cv (as := [.int x1]) (st := []) (rfl : mfetch 62 5 = some (5, .invokevirtual 141, 3, 9, 0, 0)) rfl rfl rfl rfl rfl (ok_H_hasWall isH_11 hv1) ?_
  by_cases hc1 : v1 = 0
  · rw [if_pos hc1] at hf
    refine t_jT (t := 23) (rfl : mfetch 62 8 = some (8, .ifCond .eq 15, 3, 0, 0, 0)) rfl (k_eq hc1) ?_
    refine mEnds.stp 1 (pc' := 24) (l' := [some (.ref 10), some (.int x1)]) (st' := [.int (-1)]) (fun _ => rfl) ?_
    cases hf; exact mEnds.rt (fun _ => rfl)
  · rw [if_neg hc1] at hf
    refine t_jF (rfl : mfetch 62 8 = some (8, .ifCond .eq 15, 3, 0, 0, 0)) (k_eq' hc1) ?_
    refine mEnds.stp 1 (pc' := 12) (l' := [some (.ref 10), some (.int x1)]) (st' := [.ref 10]) (fun _ => rfl) ?_
    refine t_gr (rfl : mfetch 62 12 = some (12, .getfield 10, 3, 4, 0, 0)) rfl rfl ?_
    refine t_gr (rfl : mfetch 62 15 = some (15, .getfield 144, 3, 1, 10, 0)) rfl rfl ?_
    refine mEnds.stp 1 (pc' := 19) (l' := [some (.ref 10), some (.int x1)]) (st' := [.int x1, .ref 17]) (fun _ => rfl) ?_
    obtain ⟨j1, hj1, hf⟩ := ob hf
    refine t_ia (rfl : mfetch 62 19 = some (19, .iaload, 1, 0, 0, 0)) rfl rfl hj1 ?_
    refine mEnds.stp 1 (pc' := 24) (l' := [some (.ref 10), some (.int x1)]) (st' := [.int (s 17 j1)]) (fun _ => rfl) ?_
    cases hf; exact mEnds.rt (fun _ => rfl)
def C_outside (x1 : Int32) (s : sg) : Option Int32 :=
  (C_within x1 (nI 0) (nI 7) s).bind fun v1 =>
  if v1 = 0 then
    some (-1)
  else
    (midx x1 8).bind fun j1 =>
    some (s 18 j1)
set_option maxRecDepth 100000 in
theorem ok_C_outside {x1 : Int32} {s : sg} {rv : Int32} (hf : C_outside x1 s = some rv) : mEnds [] 1 63 (0, [some (.ref 10), some (.int x1)], [], hp shC s, 0, 0) (some (.int rv), hp shC s, 0, 0) := by
  unfold C_outside at hf
  refine mEnds.stp 3 (pc' := 4) (l' := [some (.ref 10), some (.int x1)]) (st' := [.int (nI 7), .int (nI 0), .int x1]) (fun _ => rfl) ?_
  obtain ⟨v1, hv1, hf⟩ := ob hf
  refine t_cs (as := [.int x1, .int (nI 0), .int (nI 7)]) (st := []) (Or.inl rfl) (rfl : mfetch 63 4 = some (4, .invokestatic 48, 3, 105, 0, 0)) rfl rfl rfl (ok_C_within hv1) ?_
  by_cases hc1 : v1 = 0
  · rw [if_pos hc1] at hf
    refine t_jT (t := 22) (rfl : mfetch 63 7 = some (7, .ifCond .eq 15, 3, 0, 0, 0)) rfl (k_eq hc1) ?_
    refine mEnds.stp 1 (pc' := 23) (l' := [some (.ref 10), some (.int x1)]) (st' := [.int (-1)]) (fun _ => rfl) ?_
    cases hf; exact mEnds.rt (fun _ => rfl)
  · rw [if_neg hc1] at hf
    refine t_jF (rfl : mfetch 63 7 = some (7, .ifCond .eq 15, 3, 0, 0, 0)) (k_eq' hc1) ?_
    refine mEnds.stp 1 (pc' := 11) (l' := [some (.ref 10), some (.int x1)]) (st' := [.ref 10]) (fun _ => rfl) ?_
    refine t_gr (rfl : mfetch 63 11 = some (11, .getfield 10, 3, 4, 0, 0)) rfl rfl ?_
    refine t_gr (rfl : mfetch 63 14 = some (14, .getfield 147, 3, 1, 11, 0)) rfl rfl ?_
    refine mEnds.stp 1 (pc' := 18) (l' := [some (.ref 10), some (.int x1)]) (st' := [.int x1, .ref 18]) (fun _ => rfl) ?_
    obtain ⟨j1, hj1, hf⟩ := ob hf
    refine t_ia (rfl : mfetch 63 18 = some (18, .iaload, 1, 0, 0, 0)) rfl rfl hj1 ?_
    refine mEnds.stp 1 (pc' := 23) (l' := [some (.ref 10), some (.int x1)]) (st' := [.int (s 18 j1)]) (fun _ => rfl) ?_
    cases hf; exact mEnds.rt (fun _ => rfl)
def C_alter_79 (x1 : Int32) (x3 : Int32) (y0 : Nat) (s : sg) : Option (Int32 × sg) :=
  (C_exchange y0 6 x1 x3 s).bind fun v1 =>
  some (v1.1, v1.2)
set_option maxRecDepth 100000 in
theorem ok_C_alter_79 {x1 : Int32} {x3 : Int32} {y0 : Nat} (hy0_1 : shC[y0]? = some (.inl (0, 6))) (hy0_3 : Nat.ble mn0 y0 = true) {s : sg} {rv : (Int32 × sg)} (hf : C_alter_79 x1 x3 y0 s = some rv) : mEnds [] 1 64 (79, [none, some (.int x1), none, some (.int x3), none], [.ref y0], hp shC s, 0, 0) (some (.int rv.1), hp shC rv.2, 0, 0) := by
  unfold C_alter_79 at hf
  refine mEnds.stp 4 (pc' := 85) (l' := [none, some (.int x1), none, some (.int x3), some (.ref y0)]) (st' := [.int x3, .int x1, .ref y0]) (fun _ => rfl) ?_
  obtain ⟨v1, hv1, hf⟩ := ob hf
  refine t_cs (as := [.ref y0, .int x1, .int x3]) (st := []) (Or.inl rfl) (rfl : mfetch 64 85 = some (85, .invokestatic 150, 3, 107, 0, 0)) rfl rfl rfl (ok_C_exchange hy0_1 hy0_3 hv1) ?_
  exact mEnds.rti (Option.some.inj hf) (fun _ => rfl)
def C_alter_35 (x1 : Int32) (x2 : Int32) (x3 : Int32) (y0 : Int32) (y1 : Int32) (y2 : Int32) (s : sg) : Option (Int32 × sg) :=
  (C_within y2 y1 y0 s).bind fun v1 =>
  if v1 = 0 then
    some ((-1), s)
  else
    if x2 = 0 then
      C_alter_79 x1 x3 12 s
    else
      if x2 = nI 1 then
        C_alter_79 x1 x3 13 s
      else
        C_alter_79 x1 x3 14 s
set_option maxRecDepth 100000 in
theorem ok_C_alter_35 {x1 : Int32} {x2 : Int32} {x3 : Int32} {y0 : Int32} {y1 : Int32} {y2 : Int32} {s : sg} {rv : (Int32 × sg)} (hf : C_alter_35 x1 x2 x3 y0 y1 y2 s = some rv) : mEnds [] 1 64 (35, [some (.ref 10), some (.int x1), some (.int x2), some (.int x3), none], [.int y0, .int y1, .int y2], hp shC s, 0, 0) (some (.int rv.1), hp shC rv.2, 0, 0) := by
  unfold C_alter_35 at hf
  obtain ⟨v1, hv1, hf⟩ := ob hf
  refine t_cs (as := [.int y2, .int y1, .int y0]) (st := []) (Or.inl rfl) (rfl : mfetch 64 35 = some (35, .invokestatic 48, 3, 105, 0, 0)) rfl rfl rfl (ok_C_within hv1) ?_
  by_cases hc1 : v1 = 0
  · rw [if_pos hc1] at hf
    refine t_jF (rfl : mfetch 64 38 = some (38, .ifCond .ne 5, 3, 0, 0, 0)) (k_ne' hc1) ?_
    refine mEnds.stp 1 (pc' := 42) (l' := [some (.ref 10), some (.int x1), some (.int x2), some (.int x3), none]) (st' := [.int (-1)]) (fun _ => rfl) ?_
    exact mEnds.rti (Option.some.inj hf) (fun _ => rfl)
  · rw [if_neg hc1] at hf
    refine t_jT (t := 43) (rfl : mfetch 64 38 = some (38, .ifCond .ne 5, 3, 0, 0, 0)) rfl (k_ne hc1) ?_
    refine mEnds.stp 1 (pc' := 44) (l' := [some (.ref 10), some (.int x1), some (.int x2), some (.int x3), none]) (st' := [.int x2]) (fun _ => rfl) ?_
    by_cases hc2 : x2 = 0
    · rw [if_pos hc2] at hf
      refine t_jF (rfl : mfetch 64 44 = some (44, .ifCond .ne 13, 3, 0, 0, 0)) (k_ne' hc2) ?_
      refine mEnds.stp 1 (pc' := 48) (l' := [some (.ref 10), some (.int x1), some (.int x2), some (.int x3), none]) (st' := [.ref 10]) (fun _ => rfl) ?_
      refine t_gr (rfl : mfetch 64 48 = some (48, .getfield 10, 3, 4, 0, 0)) rfl rfl ?_
      refine t_gr (rfl : mfetch 64 51 = some (51, .getfield 108, 3, 1, 5, 0)) rfl rfl ?_
      refine mEnds.stp 1 (pc' := 79) (l' := [some (.ref 10), some (.int x1), some (.int x2), some (.int x3), none]) (st' := [.ref 12]) (fun _ => rfl) ?_
      refine mEnds.cut (l := [none, some (.int x1), none, some (.int x3), none]) ⟨rfl, ⟨rfl, trivial⟩⟩ ?_
      exact ok_C_alter_79 rfl rfl hf
    · rw [if_neg hc2] at hf
      refine t_jT (t := 57) (rfl : mfetch 64 44 = some (44, .ifCond .ne 13, 3, 0, 0, 0)) rfl (k_ne hc2) ?_
      refine mEnds.stp 2 (pc' := 59) (l' := [some (.ref 10), some (.int x1), some (.int x2), some (.int x3), none]) (st' := [.int (nI 1), .int x2]) (fun _ => rfl) ?_
      by_cases hc3 : x2 = nI 1
      · rw [if_pos hc3] at hf
        refine t_cF (rfl : mfetch 64 59 = some (59, .if_icmp .ne 13, 3, 0, 0, 0)) (k_ne' hc3) ?_
        refine mEnds.stp 1 (pc' := 63) (l' := [some (.ref 10), some (.int x1), some (.int x2), some (.int x3), none]) (st' := [.ref 10]) (fun _ => rfl) ?_
        refine t_gr (rfl : mfetch 64 63 = some (63, .getfield 10, 3, 4, 0, 0)) rfl rfl ?_
        refine t_gr (rfl : mfetch 64 66 = some (66, .getfield 112, 3, 1, 6, 0)) rfl rfl ?_
        refine mEnds.stp 1 (pc' := 79) (l' := [some (.ref 10), some (.int x1), some (.int x2), some (.int x3), none]) (st' := [.ref 13]) (fun _ => rfl) ?_
        refine mEnds.cut (l := [none, some (.int x1), none, some (.int x3), none]) ⟨rfl, ⟨rfl, trivial⟩⟩ ?_
        exact ok_C_alter_79 rfl rfl hf
      · rw [if_neg hc3] at hf
        refine t_cT (t := 72) (rfl : mfetch 64 59 = some (59, .if_icmp .ne 13, 3, 0, 0, 0)) rfl (k_ne hc3) ?_
        refine mEnds.stp 1 (pc' := 73) (l' := [some (.ref 10), some (.int x1), some (.int x2), some (.int x3), none]) (st' := [.ref 10]) (fun _ => rfl) ?_
        refine t_gr (rfl : mfetch 64 73 = some (73, .getfield 10, 3, 4, 0, 0)) rfl rfl ?_
        refine t_gr (rfl : mfetch 64 76 = some (76, .getfield 115, 3, 1, 7, 0)) rfl rfl ?_
        refine mEnds.cut (l := [none, some (.int x1), none, some (.int x3), none]) ⟨rfl, ⟨rfl, trivial⟩⟩ ?_
        exact ok_C_alter_79 rfl rfl hf
def C_alter (x1 : Int32) (x2 : Int32) (x3 : Int32) (s : sg) : Option (Int32 × sg) :=
  (H_hasRoom 11 x1 s).bind fun v1 =>
  if v1 = 0 then
    some ((-1), s)
  else
    (C_within x2 (nI 0) (nI 2) s).bind fun v2 =>
    if v2 = 0 then
      some ((-1), s)
    else
      if x2 = 0 then
        C_alter_35 x1 x2 x3 (nI 99) (nI 0) x3 s
      else
        C_alter_35 x1 x2 x3 (nI 9) (nI 0) x3 s
set_option maxRecDepth 100000 in
theorem ok_C_alter {x1 : Int32} {x2 : Int32} {x3 : Int32} {s : sg} {rv : (Int32 × sg)} (hf : C_alter x1 x2 x3 s = some rv) : mEnds [] 1 64 (0, [some (.ref 10), some (.int x1), some (.int x2), some (.int x3), none], [], hp shC s, 0, 0) (some (.int rv.1), hp shC rv.2, 0, 0) := by
  unfold C_alter at hf
  refine mEnds.stp 1 (pc' := 1) (l' := [some (.ref 10), some (.int x1), some (.int x2), some (.int x3), none]) (st' := [.ref 10]) (fun _ => rfl) ?_
  refine t_gr (rfl : mfetch 64 1 = some (1, .getfield 10, 3, 4, 0, 0)) rfl rfl ?_
  refine mEnds.stp 1 (pc' := 5) (l' := [some (.ref 10), some (.int x1), some (.int x2), some (.int x3), none]) (st' := [.int x1, .ref 11]) (fun _ => rfl) ?_
  obtain ⟨v1, hv1, hf⟩ := ob hf
  refine t_cv (as := [.int x1]) (st := []) (rfl : mfetch 64 5 = some (5, .invokevirtual 105, 3, 8, 0, 0)) rfl rfl rfl rfl rfl (ok_H_hasRoom isH_11 hv1) ?_
  by_cases hc1 : v1 = 0
  · rw [if_pos hc1] at hf
    refine t_jT (t := 20) (rfl : mfetch 64 8 = some (8, .ifCond .eq 12, 3, 0, 0, 0)) rfl (k_eq hc1) ?_
    refine mEnds.stp 1 (pc' := 21) (l' := [some (.ref 10), some (.int x1), some (.int x2), some (.int x3), none]) (st' := [.int (-1)]) (fun _ => rfl) ?_
    exact mEnds.rti (Option.some.inj hf) (fun _ => rfl)
  · rw [if_neg hc1] at hf
    refine t_jF (rfl : mfetch 64 8 = some (8, .ifCond .eq 12, 3, 0, 0, 0)) (k_eq' hc1) ?_
    refine mEnds.stp 3 (pc' := 14) (l' := [some (.ref 10), some (.int x1), some (.int x2), some (.int x3), none]) (st' := [.int (nI 2), .int (nI 0), .int x2]) (fun _ => rfl) ?_
    obtain ⟨v2, hv2, hf⟩ := ob hf
    refine t_cs (as := [.int x2, .int (nI 0), .int (nI 2)]) (st := []) (Or.inl rfl) (rfl : mfetch 64 14 = some (14, .invokestatic 48, 3, 105, 0, 0)) rfl rfl rfl (ok_C_within hv2) ?_
    by_cases hc2 : v2 = 0
    · rw [if_pos hc2] at hf
      refine t_jF (rfl : mfetch 64 17 = some (17, .ifCond .ne 5, 3, 0, 0, 0)) (k_ne' hc2) ?_
      refine mEnds.stp 1 (pc' := 21) (l' := [some (.ref 10), some (.int x1), some (.int x2), some (.int x3), none]) (st' := [.int (-1)]) (fun _ => rfl) ?_
      exact mEnds.rti (Option.some.inj hf) (fun _ => rfl)
    · rw [if_neg hc2] at hf
      refine t_jT (t := 22) (rfl : mfetch 64 17 = some (17, .ifCond .ne 5, 3, 0, 0, 0)) rfl (k_ne hc2) ?_
      refine mEnds.stp 3 (pc' := 25) (l' := [some (.ref 10), some (.int x1), some (.int x2), some (.int x3), none]) (st' := [.int x2, .int (nI 0), .int x3]) (fun _ => rfl) ?_
      by_cases hc3 : x2 = 0
      · rw [if_pos hc3] at hf
        refine t_jF (rfl : mfetch 64 25 = some (25, .ifCond .ne 8, 3, 0, 0, 0)) (k_ne' hc3) ?_
        refine mEnds.stp 2 (pc' := 35) (l' := [some (.ref 10), some (.int x1), some (.int x2), some (.int x3), none]) (st' := [.int (nI 99), .int (nI 0), .int x3]) (fun _ => rfl) ?_
        refine mEnds.cut (l := [some (.ref 10), some (.int x1), some (.int x2), some (.int x3), none]) ⟨rfl, ⟨rfl, ⟨rfl, ⟨rfl, trivial⟩⟩⟩⟩ ?_
        exact ok_C_alter_35 hf
      · rw [if_neg hc3] at hf
        refine t_jT (t := 33) (rfl : mfetch 64 25 = some (25, .ifCond .ne 8, 3, 0, 0, 0)) rfl (k_ne hc3) ?_
        refine mEnds.stp 1 (pc' := 35) (l' := [some (.ref 10), some (.int x1), some (.int x2), some (.int x3), none]) (st' := [.int (nI 9), .int (nI 0), .int x3]) (fun _ => rfl) ?_
        refine mEnds.cut (l := [some (.ref 10), some (.int x1), some (.int x2), some (.int x3), none]) ⟨rfl, ⟨rfl, ⟨rfl, ⟨rfl, trivial⟩⟩⟩⟩ ?_
        exact ok_C_alter_35 hf
def C_fit_57 (x1 : Int32) (x2 : Int32) (x3 : Int32) (y0 : Int32) (s : sg) : Option (Int32 × sg) :=
  (midx x1 6).bind fun j1 =>
  (some (up s 15 j1 x2)).bind fun s1 =>
  (midx x1 6).bind fun j2 =>
  (some (up s1 16 j2 x3)).bind fun s2 =>
  some (y0, s2)
set_option maxRecDepth 100000 in
theorem ok_C_fit_57 {x1 : Int32} {x2 : Int32} {x3 : Int32} {y0 : Int32} {s : sg} {rv : (Int32 × sg)} (hf : C_fit_57 x1 x2 x3 y0 s = some rv) : mEnds [] 1 65 (57, [some (.ref 10), some (.int x1), some (.int x2), some (.int x3), none], [.int y0], hp shC s, 0, 0) (some (.int rv.1), hp shC rv.2, 0, 0) := by
  unfold C_fit_57 at hf
  refine mEnds.stp 2 (pc' := 60) (l' := [some (.ref 10), some (.int x1), some (.int x2), some (.int x3), some (.int y0)]) (st' := [.ref 10]) (fun _ => rfl) ?_
  refine t_gr (rfl : mfetch 65 60 = some (60, .getfield 10, 3, 4, 0, 0)) rfl rfl ?_
  refine t_gr (rfl : mfetch 65 63 = some (63, .getfield 128, 3, 1, 8, 0)) rfl rfl ?_
  refine mEnds.stp 2 (pc' := 68) (l' := [some (.ref 10), some (.int x1), some (.int x2), some (.int x3), some (.int y0)]) (st' := [.int x2, .int x1, .ref 15]) (fun _ => rfl) ?_
  obtain ⟨j1, hj1, hf⟩ := ob hf
  obtain ⟨s1, hs1, hf⟩ := ob hf
  refine t_is (rfl : mfetch 65 68 = some (68, .iastore, 1, 0, 0, 0)) rfl rfl hj1 hs1 ?_
  refine mEnds.stp 1 (pc' := 70) (l' := [some (.ref 10), some (.int x1), some (.int x2), some (.int x3), some (.int y0)]) (st' := [.ref 10]) (fun _ => rfl) ?_
  refine t_gr (rfl : mfetch 65 70 = some (70, .getfield 10, 3, 4, 0, 0)) rfl rfl ?_
  refine t_gr (rfl : mfetch 65 73 = some (73, .getfield 131, 3, 1, 9, 0)) rfl rfl ?_
  refine mEnds.stp 2 (pc' := 78) (l' := [some (.ref 10), some (.int x1), some (.int x2), some (.int x3), some (.int y0)]) (st' := [.int x3, .int x1, .ref 16]) (fun _ => rfl) ?_
  obtain ⟨j2, hj2, hf⟩ := ob hf
  obtain ⟨s2, hs2, hf⟩ := ob hf
  refine t_is (rfl : mfetch 65 78 = some (78, .iastore, 1, 0, 0, 0)) rfl rfl hj2 hs2 ?_
  refine mEnds.stp 1 (pc' := 81) (l' := [some (.ref 10), some (.int x1), some (.int x2), some (.int x3), some (.int y0)]) (st' := [.int y0]) (fun _ => rfl) ?_
  exact mEnds.rti (Option.some.inj hf) (fun _ => rfl)
def C_fit (x1 : Int32) (x2 : Int32) (x3 : Int32) (s : sg) : Option (Int32 × sg) :=
  (H_hasRoom 11 x1 s).bind fun v1 =>
  if v1 = 0 then
    some ((-1), s)
  else
    (C_within x2 (nI 0) (nI 3) s).bind fun v2 =>
    if v2 = 0 then
      some ((-1), s)
    else
      (C_within x3 (nI 0) (nI 99) s).bind fun v3 =>
      if v3 = 0 then
        some ((-1), s)
      else
        (H_hasTongue 11 x1 s).bind fun v4 =>
        if v4 = 0 then
          C_fit_57 x1 x2 x3 (nI 9) s
        else
          (midx x1 6).bind fun j1 =>
          C_fit_57 x1 x2 x3 (s 15 j1) s
set_option maxRecDepth 100000 in
theorem ok_C_fit {x1 : Int32} {x2 : Int32} {x3 : Int32} {s : sg} {rv : (Int32 × sg)} (hf : C_fit x1 x2 x3 s = some rv) : mEnds [] 1 65 (0, [some (.ref 10), some (.int x1), some (.int x2), some (.int x3), none], [], hp shC s, 0, 0) (some (.int rv.1), hp shC rv.2, 0, 0) := by
  unfold C_fit at hf
  refine mEnds.stp 1 (pc' := 1) (l' := [some (.ref 10), some (.int x1), some (.int x2), some (.int x3), none]) (st' := [.ref 10]) (fun _ => rfl) ?_
  refine t_gr (rfl : mfetch 65 1 = some (1, .getfield 10, 3, 4, 0, 0)) rfl rfl ?_
  refine mEnds.stp 1 (pc' := 5) (l' := [some (.ref 10), some (.int x1), some (.int x2), some (.int x3), none]) (st' := [.int x1, .ref 11]) (fun _ => rfl) ?_
  obtain ⟨v1, hv1, hf⟩ := ob hf
  refine t_cv (as := [.int x1]) (st := []) (rfl : mfetch 65 5 = some (5, .invokevirtual 105, 3, 8, 0, 0)) rfl rfl rfl rfl rfl (ok_H_hasRoom isH_11 hv1) ?_
  by_cases hc1 : v1 = 0
  · rw [if_pos hc1] at hf
    refine t_jT (t := 30) (rfl : mfetch 65 8 = some (8, .ifCond .eq 22, 3, 0, 0, 0)) rfl (k_eq hc1) ?_
    refine mEnds.stp 1 (pc' := 31) (l' := [some (.ref 10), some (.int x1), some (.int x2), some (.int x3), none]) (st' := [.int (-1)]) (fun _ => rfl) ?_
    exact mEnds.rti (Option.some.inj hf) (fun _ => rfl)
  · rw [if_neg hc1] at hf
    refine t_jF (rfl : mfetch 65 8 = some (8, .ifCond .eq 22, 3, 0, 0, 0)) (k_eq' hc1) ?_
    refine mEnds.stp 3 (pc' := 14) (l' := [some (.ref 10), some (.int x1), some (.int x2), some (.int x3), none]) (st' := [.int (nI 3), .int (nI 0), .int x2]) (fun _ => rfl) ?_
    obtain ⟨v2, hv2, hf⟩ := ob hf
    refine t_cs (as := [.int x2, .int (nI 0), .int (nI 3)]) (st := []) (Or.inl rfl) (rfl : mfetch 65 14 = some (14, .invokestatic 48, 3, 105, 0, 0)) rfl rfl rfl (ok_C_within hv2) ?_
    by_cases hc2 : v2 = 0
    · rw [if_pos hc2] at hf
      refine t_jT (t := 30) (rfl : mfetch 65 17 = some (17, .ifCond .eq 13, 3, 0, 0, 0)) rfl (k_eq hc2) ?_
      refine mEnds.stp 1 (pc' := 31) (l' := [some (.ref 10), some (.int x1), some (.int x2), some (.int x3), none]) (st' := [.int (-1)]) (fun _ => rfl) ?_
      exact mEnds.rti (Option.some.inj hf) (fun _ => rfl)
    · rw [if_neg hc2] at hf
      refine t_jF (rfl : mfetch 65 17 = some (17, .ifCond .eq 13, 3, 0, 0, 0)) (k_eq' hc2) ?_
      refine mEnds.stp 3 (pc' := 24) (l' := [some (.ref 10), some (.int x1), some (.int x2), some (.int x3), none]) (st' := [.int (nI 99), .int (nI 0), .int x3]) (fun _ => rfl) ?_
      obtain ⟨v3, hv3, hf⟩ := ob hf
      refine t_cs (as := [.int x3, .int (nI 0), .int (nI 99)]) (st := []) (Or.inl rfl) (rfl : mfetch 65 24 = some (24, .invokestatic 48, 3, 105, 0, 0)) rfl rfl rfl (ok_C_within hv3) ?_
      by_cases hc3 : v3 = 0
      · rw [if_pos hc3] at hf
        refine t_jF (rfl : mfetch 65 27 = some (27, .ifCond .ne 5, 3, 0, 0, 0)) (k_ne' hc3) ?_
        refine mEnds.stp 1 (pc' := 31) (l' := [some (.ref 10), some (.int x1), some (.int x2), some (.int x3), none]) (st' := [.int (-1)]) (fun _ => rfl) ?_
        exact mEnds.rti (Option.some.inj hf) (fun _ => rfl)
      · rw [if_neg hc3] at hf
        refine t_jT (t := 32) (rfl : mfetch 65 27 = some (27, .ifCond .ne 5, 3, 0, 0, 0)) rfl (k_ne hc3) ?_
        refine mEnds.stp 1 (pc' := 33) (l' := [some (.ref 10), some (.int x1), some (.int x2), some (.int x3), none]) (st' := [.ref 10]) (fun _ => rfl) ?_
        refine t_gr (rfl : mfetch 65 33 = some (33, .getfield 10, 3, 4, 0, 0)) rfl rfl ?_
        refine mEnds.stp 1 (pc' := 37) (l' := [some (.ref 10), some (.int x1), some (.int x2), some (.int x3), none]) (st' := [.int x1, .ref 11]) (fun _ => rfl) ?_
        obtain ⟨v4, hv4, hf⟩ := ob hf
        refine t_cv (as := [.int x1]) (st := []) (rfl : mfetch 65 37 = some (37, .invokevirtual 121, 3, 10, 0, 0)) rfl rfl rfl rfl rfl (ok_H_hasTongue isH_11 hv4) ?_
        by_cases hc4 : v4 = 0
        · rw [if_pos hc4] at hf
          refine t_jT (t := 55) (rfl : mfetch 65 40 = some (40, .ifCond .eq 15, 3, 0, 0, 0)) rfl (k_eq hc4) ?_
          refine mEnds.stp 1 (pc' := 57) (l' := [some (.ref 10), some (.int x1), some (.int x2), some (.int x3), none]) (st' := [.int (nI 9)]) (fun _ => rfl) ?_
          refine mEnds.cut (l := [some (.ref 10), some (.int x1), some (.int x2), some (.int x3), none]) ⟨rfl, ⟨rfl, ⟨rfl, ⟨rfl, trivial⟩⟩⟩⟩ ?_
          exact ok_C_fit_57 hf
        · rw [if_neg hc4] at hf
          refine t_jF (rfl : mfetch 65 40 = some (40, .ifCond .eq 15, 3, 0, 0, 0)) (k_eq' hc4) ?_
          refine mEnds.stp 1 (pc' := 44) (l' := [some (.ref 10), some (.int x1), some (.int x2), some (.int x3), none]) (st' := [.ref 10]) (fun _ => rfl) ?_
          refine t_gr (rfl : mfetch 65 44 = some (44, .getfield 10, 3, 4, 0, 0)) rfl rfl ?_
          refine t_gr (rfl : mfetch 65 47 = some (47, .getfield 128, 3, 1, 8, 0)) rfl rfl ?_
          refine mEnds.stp 1 (pc' := 51) (l' := [some (.ref 10), some (.int x1), some (.int x2), some (.int x3), none]) (st' := [.int x1, .ref 15]) (fun _ => rfl) ?_
          obtain ⟨j1, hj1, hf⟩ := ob hf
          refine t_ia (rfl : mfetch 65 51 = some (51, .iaload, 1, 0, 0, 0)) rfl rfl hj1 ?_
          refine mEnds.stp 1 (pc' := 57) (l' := [some (.ref 10), some (.int x1), some (.int x2), some (.int x3), none]) (st' := [.int (s 15 j1)]) (fun _ => rfl) ?_
          refine mEnds.cut (l := [some (.ref 10), some (.int x1), some (.int x2), some (.int x3), none]) ⟨rfl, ⟨rfl, ⟨rfl, ⟨rfl, trivial⟩⟩⟩⟩ ?_
          exact ok_C_fit_57 hf
def C_strip (x1 : Int32) (s : sg) : Option (Int32 × sg) :=
  (H_hasRoom 11 x1 s).bind fun v1 =>
  if v1 = 0 then
    some ((-1), s)
  else
    (H_hasTongue 11 x1 s).bind fun v2 =>
    if v2 = 0 then
      some ((-2), s)
    else
      (midx x1 6).bind fun j1 =>
      (H_takeTongue 11 x1 s).bind fun s1 =>
      some (s 15 j1, s1)
set_option maxRecDepth 100000 in
theorem ok_C_strip {x1 : Int32} {s : sg} {rv : (Int32 × sg)} (hf : C_strip x1 s = some rv) : mEnds [] 1 66 (0, [some (.ref 10), some (.int x1), none], [], hp shC s, 0, 0) (some (.int rv.1), hp shC rv.2, 0, 0) := by
  unfold C_strip at hf
  refine mEnds.stp 1 (pc' := 1) (l' := [some (.ref 10), some (.int x1), none]) (st' := [.ref 10]) (fun _ => rfl) ?_
  refine t_gr (rfl : mfetch 66 1 = some (1, .getfield 10, 3, 4, 0, 0)) rfl rfl ?_
  refine mEnds.stp 1 (pc' := 5) (l' := [some (.ref 10), some (.int x1), none]) (st' := [.int x1, .ref 11]) (fun _ => rfl) ?_
  obtain ⟨v1, hv1, hf⟩ := ob hf
  refine t_cv (as := [.int x1]) (st := []) (rfl : mfetch 66 5 = some (5, .invokevirtual 105, 3, 8, 0, 0)) rfl rfl rfl rfl rfl (ok_H_hasRoom isH_11 hv1) ?_
  by_cases hc1 : v1 = 0
  · rw [if_pos hc1] at hf
    refine t_jF (rfl : mfetch 66 8 = some (8, .ifCond .ne 5, 3, 0, 0, 0)) (k_ne' hc1) ?_
    refine mEnds.stp 1 (pc' := 12) (l' := [some (.ref 10), some (.int x1), none]) (st' := [.int (-1)]) (fun _ => rfl) ?_
    exact mEnds.rti (Option.some.inj hf) (fun _ => rfl)
  · rw [if_neg hc1] at hf
    refine t_jT (t := 13) (rfl : mfetch 66 8 = some (8, .ifCond .ne 5, 3, 0, 0, 0)) rfl (k_ne hc1) ?_
    refine mEnds.stp 1 (pc' := 14) (l' := [some (.ref 10), some (.int x1), none]) (st' := [.ref 10]) (fun _ => rfl) ?_
    refine t_gr (rfl : mfetch 66 14 = some (14, .getfield 10, 3, 4, 0, 0)) rfl rfl ?_
    refine mEnds.stp 1 (pc' := 18) (l' := [some (.ref 10), some (.int x1), none]) (st' := [.int x1, .ref 11]) (fun _ => rfl) ?_
    obtain ⟨v2, hv2, hf⟩ := ob hf
    refine t_cv (as := [.int x1]) (st := []) (rfl : mfetch 66 18 = some (18, .invokevirtual 121, 3, 10, 0, 0)) rfl rfl rfl rfl rfl (ok_H_hasTongue isH_11 hv2) ?_
    by_cases hc2 : v2 = 0
    · rw [if_pos hc2] at hf
      refine t_jF (rfl : mfetch 66 21 = some (21, .ifCond .ne 6, 3, 0, 0, 0)) (k_ne' hc2) ?_
      refine mEnds.stp 1 (pc' := 26) (l' := [some (.ref 10), some (.int x1), none]) (st' := [.int (-2)]) (fun _ => rfl) ?_
      exact mEnds.rti (Option.some.inj hf) (fun _ => rfl)
    · rw [if_neg hc2] at hf
      refine t_jT (t := 27) (rfl : mfetch 66 21 = some (21, .ifCond .ne 6, 3, 0, 0, 0)) rfl (k_ne hc2) ?_
      refine mEnds.stp 1 (pc' := 28) (l' := [some (.ref 10), some (.int x1), none]) (st' := [.ref 10]) (fun _ => rfl) ?_
      refine t_gr (rfl : mfetch 66 28 = some (28, .getfield 10, 3, 4, 0, 0)) rfl rfl ?_
      refine t_gr (rfl : mfetch 66 31 = some (31, .getfield 128, 3, 1, 8, 0)) rfl rfl ?_
      refine mEnds.stp 1 (pc' := 35) (l' := [some (.ref 10), some (.int x1), none]) (st' := [.int x1, .ref 15]) (fun _ => rfl) ?_
      obtain ⟨j1, hj1, hf⟩ := ob hf
      refine t_ia (rfl : mfetch 66 35 = some (35, .iaload, 1, 0, 0, 0)) rfl rfl hj1 ?_
      refine mEnds.stp 2 (pc' := 38) (l' := [some (.ref 10), some (.int x1), some (.int (s 15 j1))]) (st' := [.ref 10]) (fun _ => rfl) ?_
      refine t_gr (rfl : mfetch 66 38 = some (38, .getfield 10, 3, 4, 0, 0)) rfl rfl ?_
      refine mEnds.stp 1 (pc' := 42) (l' := [some (.ref 10), some (.int x1), some (.int (s 15 j1))]) (st' := [.int x1, .ref 11]) (fun _ => rfl) ?_
      obtain ⟨s1, hs1, hf⟩ := ob hf
      refine t_cv (as := [.int x1]) (st := []) (rfl : mfetch 66 42 = some (42, .invokevirtual 154, 3, 20, 0, 0)) rfl rfl rfl rfl rfl (ok_H_takeTongue isH_11 hs1) ?_
      refine mEnds.stp 1 (pc' := 46) (l' := [some (.ref 10), some (.int x1), some (.int (s 15 j1))]) (st' := [.int (s 15 j1)]) (fun _ => rfl) ?_
      exact mEnds.rti (Option.some.inj hf) (fun _ => rfl)
def C_mark (x1 : Int32) (x2 : Int32) (s : sg) : Option (Int32 × sg) :=
  (H_markRefused 11 x1 x2 s).bind fun v1 =>
  if v1 = 0 then
    (C_exchange 16 6 x1 x2 s).bind fun v2 =>
    some (v2.1, v2.2)
  else
    some (v1, s)
set_option maxRecDepth 100000 in
theorem ok_C_mark {x1 : Int32} {x2 : Int32} {s : sg} {rv : (Int32 × sg)} (hf : C_mark x1 x2 s = some rv) : mEnds [] 2 67 (0, [some (.ref 10), some (.int x1), some (.int x2), none], [], hp shC s, 0, 0) (some (.int rv.1), hp shC rv.2, 0, 0) := by
  unfold C_mark at hf
  refine mEnds.stp 1 (pc' := 1) (l' := [some (.ref 10), some (.int x1), some (.int x2), none]) (st' := [.ref 10]) (fun _ => rfl) ?_
  refine t_gr (rfl : mfetch 67 1 = some (1, .getfield 10, 3, 4, 0, 0)) rfl rfl ?_
  refine mEnds.stp 2 (pc' := 6) (l' := [some (.ref 10), some (.int x1), some (.int x2), none]) (st' := [.int x2, .int x1, .ref 11]) (fun _ => rfl) ?_
  obtain ⟨v1, hv1, hf⟩ := ob hf
  refine t_cv (as := [.int x1, .int x2]) (st := []) (rfl : mfetch 67 6 = some (6, .invokevirtual 158, 3, 18, 0, 0)) rfl rfl rfl rfl rfl (ok_H_markRefused isH_11 hv1) ?_
  refine mEnds.stp 2 (pc' := 11) (l' := [some (.ref 10), some (.int x1), some (.int x2), some (.int v1)]) (st' := [.int v1]) (fun _ => rfl) ?_
  by_cases hc1 : v1 = 0
  · rw [if_pos hc1] at hf
    refine t_jT (t := 18) (rfl : mfetch 67 11 = some (11, .ifCond .eq 7, 3, 0, 0, 0)) rfl (k_eq hc1) ?_
    refine mEnds.stp 1 (pc' := 19) (l' := [some (.ref 10), some (.int x1), some (.int x2), some (.int v1)]) (st' := [.ref 10]) (fun _ => rfl) ?_
    refine t_gr (rfl : mfetch 67 19 = some (19, .getfield 10, 3, 4, 0, 0)) rfl rfl ?_
    refine t_gr (rfl : mfetch 67 22 = some (22, .getfield 131, 3, 1, 9, 0)) rfl rfl ?_
    refine mEnds.stp 2 (pc' := 27) (l' := [some (.ref 10), some (.int x1), some (.int x2), some (.int v1)]) (st' := [.int x2, .int x1, .ref 16]) (fun _ => rfl) ?_
    obtain ⟨v2, hv2, hf⟩ := ob hf
    refine t_cs (as := [.ref 16, .int x1, .int x2]) (st := []) (Or.inl rfl) (rfl : mfetch 67 27 = some (27, .invokestatic 150, 3, 107, 0, 0)) rfl rfl rfl ((ok_C_exchange rfl rfl hv2).deep 1) ?_
    exact mEnds.rti (Option.some.inj hf) (fun _ => rfl)
  · rw [if_neg hc1] at hf
    refine t_jF (rfl : mfetch 67 11 = some (11, .ifCond .eq 7, 3, 0, 0, 0)) (k_eq' hc1) ?_
    refine mEnds.stp 2 (pc' := 30) (l' := [some (.ref 10), some (.int x1), some (.int x2), some (.int v1)]) (st' := [.int v1]) (fun _ => rfl) ?_
    exact mEnds.rti (Option.some.inj hf) (fun _ => rfl)
def C_lag (x1 : Int32) (x2 : Int32) (s : sg) : Option (Int32 × sg) :=
  (H_hasWall 11 x1 s).bind fun v1 =>
  if v1 = 0 then
    some ((-1), s)
  else
    (C_within x2 (nI 0) (nI 9) s).bind fun v2 =>
    if v2 = 0 then
      some ((-1), s)
    else
      (C_exchange 17 5 x1 x2 s).bind fun v3 =>
      some (v3.1, v3.2)
set_option maxRecDepth 100000 in
theorem ok_C_lag {x1 : Int32} {x2 : Int32} {s : sg} {rv : (Int32 × sg)} (hf : C_lag x1 x2 s = some rv) : mEnds [] 1 68 (0, [some (.ref 10), some (.int x1), some (.int x2)], [], hp shC s, 0, 0) (some (.int rv.1), hp shC rv.2, 0, 0) := by
  unfold C_lag at hf
  refine mEnds.stp 1 (pc' := 1) (l' := [some (.ref 10), some (.int x1), some (.int x2)]) (st' := [.ref 10]) (fun _ => rfl) ?_
  refine t_gr (rfl : mfetch 68 1 = some (1, .getfield 10, 3, 4, 0, 0)) rfl rfl ?_
  refine mEnds.stp 1 (pc' := 5) (l' := [some (.ref 10), some (.int x1), some (.int x2)]) (st' := [.int x1, .ref 11]) (fun _ => rfl) ?_
  obtain ⟨v1, hv1, hf⟩ := ob hf
  refine t_cv (as := [.int x1]) (st := []) (rfl : mfetch 68 5 = some (5, .invokevirtual 141, 3, 9, 0, 0)) rfl rfl rfl rfl rfl (ok_H_hasWall isH_11 hv1) ?_
  by_cases hc1 : v1 = 0
  · rw [if_pos hc1] at hf
    refine t_jT (t := 21) (rfl : mfetch 68 8 = some (8, .ifCond .eq 13, 3, 0, 0, 0)) rfl (k_eq hc1) ?_
    refine mEnds.stp 1 (pc' := 22) (l' := [some (.ref 10), some (.int x1), some (.int x2)]) (st' := [.int (-1)]) (fun _ => rfl) ?_
    exact mEnds.rti (Option.some.inj hf) (fun _ => rfl)
  · rw [if_neg hc1] at hf
    refine t_jF (rfl : mfetch 68 8 = some (8, .ifCond .eq 13, 3, 0, 0, 0)) (k_eq' hc1) ?_
    refine mEnds.stp 3 (pc' := 15) (l' := [some (.ref 10), some (.int x1), some (.int x2)]) (st' := [.int (nI 9), .int (nI 0), .int x2]) (fun _ => rfl) ?_
    obtain ⟨v2, hv2, hf⟩ := ob hf
    refine t_cs (as := [.int x2, .int (nI 0), .int (nI 9)]) (st := []) (Or.inl rfl) (rfl : mfetch 68 15 = some (15, .invokestatic 48, 3, 105, 0, 0)) rfl rfl rfl (ok_C_within hv2) ?_
    by_cases hc2 : v2 = 0
    · rw [if_pos hc2] at hf
      refine t_jF (rfl : mfetch 68 18 = some (18, .ifCond .ne 5, 3, 0, 0, 0)) (k_ne' hc2) ?_
      refine mEnds.stp 1 (pc' := 22) (l' := [some (.ref 10), some (.int x1), some (.int x2)]) (st' := [.int (-1)]) (fun _ => rfl) ?_
      exact mEnds.rti (Option.some.inj hf) (fun _ => rfl)
    · rw [if_neg hc2] at hf
      refine t_jT (t := 23) (rfl : mfetch 68 18 = some (18, .ifCond .ne 5, 3, 0, 0, 0)) rfl (k_ne hc2) ?_
      refine mEnds.stp 1 (pc' := 24) (l' := [some (.ref 10), some (.int x1), some (.int x2)]) (st' := [.ref 10]) (fun _ => rfl) ?_
      refine t_gr (rfl : mfetch 68 24 = some (24, .getfield 10, 3, 4, 0, 0)) rfl rfl ?_
      refine t_gr (rfl : mfetch 68 27 = some (27, .getfield 144, 3, 1, 10, 0)) rfl rfl ?_
      refine mEnds.stp 2 (pc' := 32) (l' := [some (.ref 10), some (.int x1), some (.int x2)]) (st' := [.int x2, .int x1, .ref 17]) (fun _ => rfl) ?_
      obtain ⟨v3, hv3, hf⟩ := ob hf
      refine t_cs (as := [.ref 17, .int x1, .int x2]) (st := []) (Or.inl rfl) (rfl : mfetch 68 32 = some (32, .invokestatic 150, 3, 107, 0, 0)) rfl rfl rfl (ok_C_exchange rfl rfl hv3) ?_
      exact mEnds.rti (Option.some.inj hf) (fun _ => rfl)
def C_sky (x1 : Int32) (x2 : Int32) (s : sg) : Option (Int32 × sg) :=
  (C_within x1 (nI 0) (nI 7) s).bind fun v1 =>
  if v1 = 0 then
    some ((-1), s)
  else
    (C_within x2 (nI 0) (nI 99) s).bind fun v2 =>
    if v2 = 0 then
      some ((-1), s)
    else
      (C_exchange 18 8 x1 x2 s).bind fun v3 =>
      some (v3.1, v3.2)
set_option maxRecDepth 100000 in
theorem ok_C_sky {x1 : Int32} {x2 : Int32} {s : sg} {rv : (Int32 × sg)} (hf : C_sky x1 x2 s = some rv) : mEnds [] 1 69 (0, [some (.ref 10), some (.int x1), some (.int x2)], [], hp shC s, 0, 0) (some (.int rv.1), hp shC rv.2, 0, 0) := by
  unfold C_sky at hf
  refine mEnds.stp 3 (pc' := 4) (l' := [some (.ref 10), some (.int x1), some (.int x2)]) (st' := [.int (nI 7), .int (nI 0), .int x1]) (fun _ => rfl) ?_
  obtain ⟨v1, hv1, hf⟩ := ob hf
  refine t_cs (as := [.int x1, .int (nI 0), .int (nI 7)]) (st := []) (Or.inl rfl) (rfl : mfetch 69 4 = some (4, .invokestatic 48, 3, 105, 0, 0)) rfl rfl rfl (ok_C_within hv1) ?_
  by_cases hc1 : v1 = 0
  · rw [if_pos hc1] at hf
    refine t_jT (t := 20) (rfl : mfetch 69 7 = some (7, .ifCond .eq 13, 3, 0, 0, 0)) rfl (k_eq hc1) ?_
    refine mEnds.stp 1 (pc' := 21) (l' := [some (.ref 10), some (.int x1), some (.int x2)]) (st' := [.int (-1)]) (fun _ => rfl) ?_
    exact mEnds.rti (Option.some.inj hf) (fun _ => rfl)
  · rw [if_neg hc1] at hf
    refine t_jF (rfl : mfetch 69 7 = some (7, .ifCond .eq 13, 3, 0, 0, 0)) (k_eq' hc1) ?_
    refine mEnds.stp 3 (pc' := 14) (l' := [some (.ref 10), some (.int x1), some (.int x2)]) (st' := [.int (nI 99), .int (nI 0), .int x2]) (fun _ => rfl) ?_
    obtain ⟨v2, hv2, hf⟩ := ob hf
    refine t_cs (as := [.int x2, .int (nI 0), .int (nI 99)]) (st := []) (Or.inl rfl) (rfl : mfetch 69 14 = some (14, .invokestatic 48, 3, 105, 0, 0)) rfl rfl rfl (ok_C_within hv2) ?_
    by_cases hc2 : v2 = 0
    · rw [if_pos hc2] at hf
      refine t_jF (rfl : mfetch 69 17 = some (17, .ifCond .ne 5, 3, 0, 0, 0)) (k_ne' hc2) ?_
      refine mEnds.stp 1 (pc' := 21) (l' := [some (.ref 10), some (.int x1), some (.int x2)]) (st' := [.int (-1)]) (fun _ => rfl) ?_
      exact mEnds.rti (Option.some.inj hf) (fun _ => rfl)
    · rw [if_neg hc2] at hf
      refine t_jT (t := 22) (rfl : mfetch 69 17 = some (17, .ifCond .ne 5, 3, 0, 0, 0)) rfl (k_ne hc2) ?_
      refine mEnds.stp 1 (pc' := 23) (l' := [some (.ref 10), some (.int x1), some (.int x2)]) (st' := [.ref 10]) (fun _ => rfl) ?_
      refine t_gr (rfl : mfetch 69 23 = some (23, .getfield 10, 3, 4, 0, 0)) rfl rfl ?_
      refine t_gr (rfl : mfetch 69 26 = some (26, .getfield 147, 3, 1, 11, 0)) rfl rfl ?_
      refine mEnds.stp 2 (pc' := 31) (l' := [some (.ref 10), some (.int x1), some (.int x2)]) (st' := [.int x2, .int x1, .ref 18]) (fun _ => rfl) ?_
      obtain ⟨v3, hv3, hf⟩ := ob hf
      refine t_cs (as := [.ref 18, .int x1, .int x2]) (st := []) (Or.inl rfl) (rfl : mfetch 69 31 = some (31, .invokestatic 150, 3, 107, 0, 0)) rfl rfl rfl (ok_C_exchange rfl rfl hv3) ?_
      exact mEnds.rti (Option.some.inj hf) (fun _ => rfl)
def C_hours (x1 : Int32) (s : sg) : Option (Int32 × sg) :=
  (C_within x1 (nI 0) (nI 48) s).bind fun v1 =>
  if v1 = 0 then
    some ((-1), s)
  else
    if nI 999 < (s 11 2) + x1 then
      some ((-3), s)
    else
      (H_passHours 11 x1 s).bind fun v2 =>
      some (v2.1, v2.2)
set_option maxRecDepth 100000 in
theorem ok_C_hours {x1 : Int32} {s : sg} {rv : (Int32 × sg)} (hf : C_hours x1 s = some rv) : mEnds [] 5 70 (0, [some (.ref 10), some (.int x1)], [], hp shC s, 0, 0) (some (.int rv.1), hp shC rv.2, 0, 0) := by
  unfold C_hours at hf
  refine mEnds.stp 3 (pc' := 4) (l' := [some (.ref 10), some (.int x1)]) (st' := [.int (nI 48), .int (nI 0), .int x1]) (fun _ => rfl) ?_
  obtain ⟨v1, hv1, hf⟩ := ob hf
  refine t_cs (as := [.int x1, .int (nI 0), .int (nI 48)]) (st := []) (Or.inl rfl) (rfl : mfetch 70 4 = some (4, .invokestatic 48, 3, 105, 0, 0)) rfl rfl rfl ((ok_C_within hv1).deep 4) ?_
  by_cases hc1 : v1 = 0
  · rw [if_pos hc1] at hf
    refine t_jF (rfl : mfetch 70 7 = some (7, .ifCond .ne 5, 3, 0, 0, 0)) (k_ne' hc1) ?_
    refine mEnds.stp 1 (pc' := 11) (l' := [some (.ref 10), some (.int x1)]) (st' := [.int (-1)]) (fun _ => rfl) ?_
    exact mEnds.rti (Option.some.inj hf) (fun _ => rfl)
  · rw [if_neg hc1] at hf
    refine t_jT (t := 12) (rfl : mfetch 70 7 = some (7, .ifCond .ne 5, 3, 0, 0, 0)) rfl (k_ne hc1) ?_
    refine mEnds.stp 1 (pc' := 13) (l' := [some (.ref 10), some (.int x1)]) (st' := [.ref 10]) (fun _ => rfl) ?_
    refine t_gr (rfl : mfetch 70 13 = some (13, .getfield 10, 3, 4, 0, 0)) rfl rfl ?_
    refine t_gi (rfl : mfetch 70 16 = some (16, .getfield 86, 3, 1, 2, 0)) rfl rfl ?_
    refine mEnds.stp 3 (pc' := 24) (l' := [some (.ref 10), some (.int x1)]) (st' := [.int (nI 999), .int ((s 11 2) + x1)]) (fun _ => rfl) ?_
    by_cases hc2 : nI 999 < (s 11 2) + x1
    · rw [if_pos hc2] at hf
      refine t_cF (rfl : mfetch 70 24 = some (24, .if_icmp .le 6, 3, 0, 0, 0)) (k_le' hc2) ?_
      refine mEnds.stp 1 (pc' := 29) (l' := [some (.ref 10), some (.int x1)]) (st' := [.int (-3)]) (fun _ => rfl) ?_
      exact mEnds.rti (Option.some.inj hf) (fun _ => rfl)
    · rw [if_neg hc2] at hf
      refine t_cT (t := 30) (rfl : mfetch 70 24 = some (24, .if_icmp .le 6, 3, 0, 0, 0)) rfl (k_le hc2) ?_
      refine mEnds.stp 1 (pc' := 31) (l' := [some (.ref 10), some (.int x1)]) (st' := [.ref 10]) (fun _ => rfl) ?_
      refine t_gr (rfl : mfetch 70 31 = some (31, .getfield 10, 3, 4, 0, 0)) rfl rfl ?_
      refine mEnds.stp 1 (pc' := 35) (l' := [some (.ref 10), some (.int x1)]) (st' := [.int x1, .ref 11]) (fun _ => rfl) ?_
      obtain ⟨v2, hv2, hf⟩ := ob hf
      refine t_cv (as := [.int x1]) (st := []) (rfl : mfetch 70 35 = some (35, .invokevirtual 161, 3, 22, 0, 0)) rfl rfl rfl rfl rfl (ok_H_passHours isH_11 hv2) ?_
      exact mEnds.rti (Option.some.inj hf) (fun _ => rfl)
def C_copyOfNow (s : sg) : Option sg :=
  (H_copyFrom 53 11 s).bind fun s1 =>
  some s1
set_option maxRecDepth 100000 in
theorem ok_C_copyOfNow {s : sg} {rv : sg} (hf : C_copyOfNow s = some rv) : mEnds [] 1 109 (0, [some (.ref 10)], [], hp shC s, 0, 0) (some (.ref 53), hp shC rv, 0, 0) := by
  unfold C_copyOfNow at hf
  refine mEnds.stp 1 (pc' := 1) (l' := [some (.ref 10)]) (st' := [.ref 10]) (fun _ => rfl) ?_
  refine t_gr (rfl : mfetch 109 1 = some (1, .getfield 24, 3, 4, 3, 0)) rfl rfl ?_
  refine mEnds.stp 1 (pc' := 5) (l' := [some (.ref 10)]) (st' := [.int (nI 0), .ref 21]) (fun _ => rfl) ?_
  refine t_aa (j := 0) (rfl : mfetch 109 5 = some (5, .aaload, 1, 0, 0, 0)) rfl rfl rfl rfl rfl ?_
  refine mEnds.stp 1 (pc' := 7) (l' := [some (.ref 10)]) (st' := [.ref 10, .ref 53]) (fun _ => rfl) ?_
  refine t_gr (rfl : mfetch 109 7 = some (7, .getfield 10, 3, 4, 0, 0)) rfl rfl ?_
  obtain ⟨s1, hs1, hf⟩ := ob hf
  refine t_cv (as := [.ref 11]) (st := []) (rfl : mfetch 109 10 = some (10, .invokevirtual 70, 3, 7, 0, 0)) rfl rfl rfl rfl rfl (ok_H_copyFrom isH_53 isH_11 hs1) ?_
  refine mEnds.stp 1 (pc' := 14) (l' := [some (.ref 10)]) (st' := [.ref 10]) (fun _ => rfl) ?_
  refine t_gr (rfl : mfetch 109 14 = some (14, .getfield 24, 3, 4, 3, 0)) rfl rfl ?_
  refine mEnds.stp 1 (pc' := 18) (l' := [some (.ref 10)]) (st' := [.int (nI 0), .ref 21]) (fun _ => rfl) ?_
  refine t_aa (j := 0) (rfl : mfetch 109 18 = some (18, .aaload, 1, 0, 0, 0)) rfl rfl rfl rfl rfl ?_
  cases hf; exact mEnds.rt (fun _ => rfl)
def C_coldestWithin_13 (x1 : Int32) : Nat → Int32 → Int32 → sg → Option (Int32 × sg)
  | 0, _, _, _ => none
  | fu + 1, x3, x4, s =>
  if x4 < x1 then
    (H_passHour 53 s).bind fun s1 =>
    (H_coldestNow 53 s1).bind fun v2 =>
    C_coldestWithin_13 x1 fu (if v2 < x3 then v2 else x3) (x4 + (nI 1)) s1
  else
    some (x3, s)
set_option maxRecDepth 100000 in
theorem ok_C_coldestWithin_13 {x1 : Int32} : ∀ (fu : Nat) (x3 : Int32) (x4 : Int32) (s : sg) (rv : (Int32 × sg)), C_coldestWithin_13 x1 fu x3 x4 s = some rv → mEnds [] 4 72 (13, [none, some (.int x1), some (.ref 53), some (.int x3), some (.int x4)], [], hp shC s, 0, 0) (some (.int rv.1), hp shC rv.2, 0, 0)
  | 0, _, _, _, _, hf => by cases hf
  | fu + 1, x3, x4, s, rv, hf => by
    rw [C_coldestWithin_13] at hf
    refine mEnds.stp 2 (pc' := 16) (l' := [none, some (.int x1), some (.ref 53), some (.int x3), some (.int x4)]) (st' := [.int x1, .int x4]) (fun _ => rfl) ?_
    by_cases hc1 : x4 < x1
    · rw [if_pos hc1] at hf
      refine t_cF (rfl : mfetch 72 16 = some (16, .if_icmp .ge 22, 3, 0, 0, 0)) (k_ge' hc1) ?_
      refine mEnds.stp 1 (pc' := 20) (l' := [none, some (.int x1), some (.ref 53), some (.int x3), some (.int x4)]) (st' := [.ref 53]) (fun _ => rfl) ?_
      obtain ⟨s1, hs1, hf⟩ := ob hf
      refine t_cv (as := []) (st := []) (rfl : mfetch 72 20 = some (20, .invokevirtual 174, 3, 23, 0, 0)) rfl rfl rfl rfl rfl (ok_H_passHour isH_53 hs1) ?_
      refine mEnds.stp 2 (pc' := 25) (l' := [none, some (.int x1), some (.ref 53), some (.int x3), some (.int x4)]) (st' := [.ref 53, .int x3]) (fun _ => rfl) ?_
      obtain ⟨v2, hv2, hf⟩ := ob hf
      refine t_cv (as := []) (st := [.int x3]) (rfl : mfetch 72 25 = some (25, .invokevirtual 171, 3, 16, 0, 0)) rfl rfl rfl rfl rfl ((ok_H_coldestNow isH_53 hv2).deep 3) ?_
      refine mEnds.stp 4 (pc' := 13) (l' := [none, some (.int x1), some (.ref 53), some (.int (if v2 < x3 then v2 else x3)), some (.int (x4 + (nI 1)))]) (st' := []) (fun _ => rfl) ?_
      refine mEnds.cut (l := [none, some (.int x1), some (.ref 53), some (.int (if v2 < x3 then v2 else x3)), some (.int (x4 + (nI 1)))]) ⟨rfl, ⟨rfl, ⟨rfl, ⟨rfl, trivial⟩⟩⟩⟩ ?_
      exact ok_C_coldestWithin_13 fu (if v2 < x3 then v2 else x3) (x4 + (nI 1)) s1 _ hf
    · rw [if_neg hc1] at hf
      refine t_cT (t := 38) (rfl : mfetch 72 16 = some (16, .if_icmp .ge 22, 3, 0, 0, 0)) rfl (k_ge hc1) ?_
      refine mEnds.stp 1 (pc' := 39) (l' := [none, some (.int x1), some (.ref 53), some (.int x3), some (.int x4)]) (st' := [.int x3]) (fun _ => rfl) ?_
      exact mEnds.rti (Option.some.inj hf) (fun _ => rfl)
def C_coldestWithin (x1 : Int32) (s : sg) : Option (Int32 × sg) :=
  (C_copyOfNow s).bind fun s1 =>
  (H_coldestNow 53 s1).bind fun v2 =>
  C_coldestWithin_13 x1 FU v2 (nI 0) s1
set_option maxRecDepth 100000 in
theorem ok_C_coldestWithin {x1 : Int32} {s : sg} {rv : (Int32 × sg)} (hf : C_coldestWithin x1 s = some rv) : mEnds [] 4 72 (0, [some (.ref 10), some (.int x1), none, none, none], [], hp shC s, 0, 0) (some (.int rv.1), hp shC rv.2, 0, 0) := by
  unfold C_coldestWithin at hf
  refine mEnds.stp 1 (pc' := 1) (l' := [some (.ref 10), some (.int x1), none, none, none]) (st' := [.ref 10]) (fun _ => rfl) ?_
  obtain ⟨s1, hs1, hf⟩ := ob hf
  refine t_cv (as := []) (st := []) (rfl : mfetch 72 1 = some (1, .invokevirtual 167, 3, 109, 0, 0)) rfl rfl rfl rfl rfl ((ok_C_copyOfNow hs1).deep 2) ?_
  refine mEnds.stp 2 (pc' := 6) (l' := [some (.ref 10), some (.int x1), some (.ref 53), none, none]) (st' := [.ref 53]) (fun _ => rfl) ?_
  obtain ⟨v2, hv2, hf⟩ := ob hf
  refine t_cv (as := []) (st := []) (rfl : mfetch 72 6 = some (6, .invokevirtual 171, 3, 16, 0, 0)) rfl rfl rfl rfl rfl ((ok_H_coldestNow isH_53 hv2).deep 3) ?_
  refine mEnds.stp 3 (pc' := 13) (l' := [some (.ref 10), some (.int x1), some (.ref 53), some (.int v2), some (.int (nI 0))]) (st' := []) (fun _ => rfl) ?_
  refine mEnds.cut (l := [none, some (.int x1), some (.ref 53), some (.int v2), some (.int (nI 0))]) ⟨rfl, ⟨rfl, ⟨rfl, ⟨rfl, trivial⟩⟩⟩⟩ ?_
  exact ok_C_coldestWithin_13 FU v2 (nI 0) s1 _ hf
def C_runs (x1 : Int32) (x2 : Int32) (s : sg) : Option (Int32 × sg) :=
  (C_within x1 (nI 0) (nI 60) s).bind fun v1 =>
  if v1 = 0 then
    some ((-1), s)
  else
    (C_within x2 (nI 0) (nI 4) s).bind fun v2 =>
    if v2 = 0 then
      some ((-1), s)
    else
      if x2 = nI 3 then
        if s 11 0 = 0 then
          some ((-4), s)
        else
          (C_coldestWithin x1 s).bind fun v6 =>
          some (v6.1, v6.2)
      else
        (C_copyOfNow s).bind fun s1 =>
        (H_passHours 53 x1 s1).bind fun v4 =>
        if x2 = nI 0 then
          some (v4.1, v4.2)
        else
          if x2 = nI 1 then
            some ((v4.2 53 4) - (v4.2 11 4), v4.2)
          else
            if x2 = nI 2 then
              (H_warmthOfAll 53 v4.2).bind fun v5 =>
              some (v5, v4.2)
            else
              some (v4.2 53 1, v4.2)
set_option maxRecDepth 100000 in
theorem ok_C_runs {x1 : Int32} {x2 : Int32} {s : sg} {rv : (Int32 × sg)} (hf : C_runs x1 x2 s = some rv) : mEnds [] 5 71 (0, [some (.ref 10), some (.int x1), some (.int x2), none, none], [], hp shC s, 0, 0) (some (.int rv.1), hp shC rv.2, 0, 0) := by
  unfold C_runs at hf
  refine mEnds.stp 3 (pc' := 4) (l' := [some (.ref 10), some (.int x1), some (.int x2), none, none]) (st' := [.int (nI 60), .int (nI 0), .int x1]) (fun _ => rfl) ?_
  obtain ⟨v1, hv1, hf⟩ := ob hf
  refine t_cs (as := [.int x1, .int (nI 0), .int (nI 60)]) (st := []) (Or.inl rfl) (rfl : mfetch 71 4 = some (4, .invokestatic 48, 3, 105, 0, 0)) rfl rfl rfl ((ok_C_within hv1).deep 4) ?_
  by_cases hc1 : v1 = 0
  · rw [if_pos hc1] at hf
    refine t_jT (t := 19) (rfl : mfetch 71 7 = some (7, .ifCond .eq 12, 3, 0, 0, 0)) rfl (k_eq hc1) ?_
    refine mEnds.stp 1 (pc' := 20) (l' := [some (.ref 10), some (.int x1), some (.int x2), none, none]) (st' := [.int (-1)]) (fun _ => rfl) ?_
    exact mEnds.rti (Option.some.inj hf) (fun _ => rfl)
  · rw [if_neg hc1] at hf
    refine t_jF (rfl : mfetch 71 7 = some (7, .ifCond .eq 12, 3, 0, 0, 0)) (k_eq' hc1) ?_
    refine mEnds.stp 3 (pc' := 13) (l' := [some (.ref 10), some (.int x1), some (.int x2), none, none]) (st' := [.int (nI 4), .int (nI 0), .int x2]) (fun _ => rfl) ?_
    obtain ⟨v2, hv2, hf⟩ := ob hf
    refine t_cs (as := [.int x2, .int (nI 0), .int (nI 4)]) (st := []) (Or.inl rfl) (rfl : mfetch 71 13 = some (13, .invokestatic 48, 3, 105, 0, 0)) rfl rfl rfl ((ok_C_within hv2).deep 4) ?_
    by_cases hc2 : v2 = 0
    · rw [if_pos hc2] at hf
      refine t_jF (rfl : mfetch 71 16 = some (16, .ifCond .ne 5, 3, 0, 0, 0)) (k_ne' hc2) ?_
      refine mEnds.stp 1 (pc' := 20) (l' := [some (.ref 10), some (.int x1), some (.int x2), none, none]) (st' := [.int (-1)]) (fun _ => rfl) ?_
      exact mEnds.rti (Option.some.inj hf) (fun _ => rfl)
    · rw [if_neg hc2] at hf
      refine t_jT (t := 21) (rfl : mfetch 71 16 = some (16, .ifCond .ne 5, 3, 0, 0, 0)) rfl (k_ne hc2) ?_
      refine mEnds.stp 2 (pc' := 23) (l' := [some (.ref 10), some (.int x1), some (.int x2), none, none]) (st' := [.int (nI 3), .int x2]) (fun _ => rfl) ?_
      by_cases hc3 : x2 = nI 3
      · rw [if_pos hc3] at hf
        refine t_cF (rfl : mfetch 71 23 = some (23, .if_icmp .ne 24, 3, 0, 0, 0)) (k_ne' hc3) ?_
        refine mEnds.stp 1 (pc' := 27) (l' := [some (.ref 10), some (.int x1), some (.int x2), none, none]) (st' := [.ref 10]) (fun _ => rfl) ?_
        refine t_gr (rfl : mfetch 71 27 = some (27, .getfield 10, 3, 4, 0, 0)) rfl rfl ?_
        refine t_gi (rfl : mfetch 71 30 = some (30, .getfield 83, 3, 1, 0, 0)) rfl rfl ?_
        by_cases hc7 : s 11 0 = 0
        · rw [if_pos hc7] at hf
          refine t_jF (rfl : mfetch 71 33 = some (33, .ifCond .ne 8, 3, 0, 0, 0)) (k_ne' hc7) ?_
          refine mEnds.stp 2 (pc' := 46) (l' := [some (.ref 10), some (.int x1), some (.int x2), none, none]) (st' := [.int (-4)]) (fun _ => rfl) ?_
          exact mEnds.rti (Option.some.inj hf) (fun _ => rfl)
        · rw [if_neg hc7] at hf
          refine t_jT (t := 41) (rfl : mfetch 71 33 = some (33, .ifCond .ne 8, 3, 0, 0, 0)) rfl (k_ne hc7) ?_
          refine mEnds.stp 2 (pc' := 43) (l' := [some (.ref 10), some (.int x1), some (.int x2), none, none]) (st' := [.int x1, .ref 10]) (fun _ => rfl) ?_
          obtain ⟨v6, hv6, hf⟩ := ob hf
          refine t_cv (as := [.int x1]) (st := []) (rfl : mfetch 71 43 = some (43, .invokevirtual 164, 3, 72, 0, 0)) rfl rfl rfl rfl rfl (ok_C_coldestWithin hv6) ?_
          exact mEnds.rti (Option.some.inj hf) (fun _ => rfl)
      · rw [if_neg hc3] at hf
        refine t_cT (t := 47) (rfl : mfetch 71 23 = some (23, .if_icmp .ne 24, 3, 0, 0, 0)) rfl (k_ne hc3) ?_
        refine mEnds.stp 1 (pc' := 48) (l' := [some (.ref 10), some (.int x1), some (.int x2), none, none]) (st' := [.ref 10]) (fun _ => rfl) ?_
        obtain ⟨s1, hs1, hf⟩ := ob hf
        refine t_cv (as := []) (st := []) (rfl : mfetch 71 48 = some (48, .invokevirtual 167, 3, 109, 0, 0)) rfl rfl rfl rfl rfl ((ok_C_copyOfNow hs1).deep 3) ?_
        refine mEnds.stp 3 (pc' := 54) (l' := [some (.ref 10), some (.int x1), some (.int x2), some (.ref 53), none]) (st' := [.int x1, .ref 53]) (fun _ => rfl) ?_
        obtain ⟨v4, hv4, hf⟩ := ob hf
        refine t_cv (as := [.int x1]) (st := []) (rfl : mfetch 71 54 = some (54, .invokevirtual 161, 3, 22, 0, 0)) rfl rfl rfl rfl rfl (ok_H_passHours isH_53 hv4) ?_
        refine mEnds.stp 2 (pc' := 60) (l' := [some (.ref 10), some (.int x1), some (.int x2), some (.ref 53), some (.int v4.1)]) (st' := [.int x2]) (fun _ => rfl) ?_
        by_cases hc4 : x2 = nI 0
        · rw [if_pos hc4] at hf
          refine t_sw hc4 (fun _ _ _ => rfl) (t := 88) ?_
          refine mEnds.stp 1 (pc' := 90) (l' := [some (.ref 10), some (.int x1), some (.int x2), some (.ref 53), some (.int v4.1)]) (st' := [.int v4.1]) (fun _ => rfl) ?_
          exact mEnds.rti (Option.some.inj hf) (fun _ => rfl)
        · rw [if_neg hc4] at hf
          by_cases hc5 : x2 = nI 1
          · rw [if_pos hc5] at hf
            refine t_sw hc5 (fun _ _ _ => rfl) (t := 91) ?_
            refine mEnds.stp 1 (pc' := 92) (l' := [some (.ref 10), some (.int x1), some (.int x2), some (.ref 53), some (.int v4.1)]) (st' := [.ref 53]) (fun _ => rfl) ?_
            refine t_gi (rfl : mfetch 71 92 = some (92, .getfield 92, 3, 1, 4, 0)) rfl rfl ?_
            refine mEnds.stp 1 (pc' := 96) (l' := [some (.ref 10), some (.int x1), some (.int x2), some (.ref 53), some (.int v4.1)]) (st' := [.ref 10, .int (v4.2 53 4)]) (fun _ => rfl) ?_
            refine t_gr (rfl : mfetch 71 96 = some (96, .getfield 10, 3, 4, 0, 0)) rfl rfl ?_
            refine t_gi (rfl : mfetch 71 99 = some (99, .getfield 92, 3, 1, 4, 0)) rfl rfl ?_
            refine mEnds.stp 1 (pc' := 103) (l' := [some (.ref 10), some (.int x1), some (.int x2), some (.ref 53), some (.int v4.1)]) (st' := [.int ((v4.2 53 4) - (v4.2 11 4))]) (fun _ => rfl) ?_
            exact mEnds.rti (Option.some.inj hf) (fun _ => rfl)
          · rw [if_neg hc5] at hf
            by_cases hc6 : x2 = nI 2
            · rw [if_pos hc6] at hf
              refine t_sw hc6 (fun _ _ _ => rfl) (t := 104) ?_
              refine mEnds.stp 1 (pc' := 105) (l' := [some (.ref 10), some (.int x1), some (.int x2), some (.ref 53), some (.int v4.1)]) (st' := [.ref 53]) (fun _ => rfl) ?_
              obtain ⟨v5, hv5, hf⟩ := ob hf
              refine t_cv (as := []) (st := []) (rfl : mfetch 71 105 = some (105, .invokevirtual 95, 3, 15, 0, 0)) rfl rfl rfl rfl rfl ((ok_H_warmthOfAll isH_53 hv5).deep 3) ?_
              exact mEnds.rti (Option.some.inj hf) (fun _ => rfl)
            · rw [if_neg hc6] at hf
              refine t_swD (t := 109) (rfl : mfetch 71 60 = some (60, .tableswitch 49 0 2 #[28, 31, 44], 28, 0, 0, 0)) rfl (sw_out (fun k hk => match k, hk with | 0, _ => hc4 | 1, _ => hc5 | 2, _ => hc6 | k + 3, hk => absurd hk (by omega))) ?_
              refine mEnds.stp 1 (pc' := 110) (l' := [some (.ref 10), some (.int x1), some (.int x2), some (.ref 53), some (.int v4.1)]) (st' := [.ref 53]) (fun _ => rfl) ?_
              refine t_gi (rfl : mfetch 71 110 = some (110, .getfield 99, 3, 1, 1, 0)) rfl rfl ?_
              exact mEnds.rti (Option.some.inj hf) (fun _ => rfl)
end Q30e
