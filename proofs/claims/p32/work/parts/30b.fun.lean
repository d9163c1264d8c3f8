def H_copyFrom (b : Nat) (b2 : Nat) (s : sg) : Option sg :=
  (some (up s b 0 (s b2 0))).bind fun s1 =>
  (some (up s1 b 1 (s1 b2 1))).bind fun s2 =>
  (some (up s2 b 2 (s2 b2 2))).bind fun s3 =>
  (some (up s3 b 3 (s3 b2 3))).bind fun s4 =>
  (some (up s4 b 4 (s4 b2 4))).bind fun s5 =>
  (some (cpy s5 (b2 + 1) (b + 1) 6)).bind fun s6 =>
  (some (cpy s6 (b2 + 2) (b + 2) 6)).bind fun s7 =>
  (some (cpy s7 (b2 + 3) (b + 3) 6)).bind fun s8 =>
  (some (cpy s8 (b2 + 4) (b + 4) 6)).bind fun s9 =>
  (some (cpy s9 (b2 + 5) (b + 5) 6)).bind fun s10 =>
  (some (cpy s10 (b2 + 6) (b + 6) 5)).bind fun s11 =>
  (some (cpy s11 (b2 + 7) (b + 7) 8)).bind fun s12 =>
  some s12
set_option maxRecDepth 100000 in
theorem ok_H_copyFrom {b : Nat} {b2 : Nat} (hb : isH b) (hb2 : isH b2) {s : sg} {rv : sg} (hf : H_copyFrom b b2 s = some rv) : mEnds [] 0 7 (0, [some (.ref b), some (.ref b2)], [], hp shC s, 0, 0) (none, hp shC rv, 0, 0) := by
  unfold H_copyFrom at hf
  refine mEnds.stp 2 (pc' := 2) (l' := [some (.ref b), some (.ref b2)]) (st' := [.ref b2, .ref b]) (fun _ => rfl) ?_
  refine t_gi (rfl : mfetch 7 2 = some (2, .getfield 36, 3, 1, 0, 0)) hb2.1 rfl ?_
  obtain ⟨s1, hs1, hf⟩ := ob hf
  refine t_pi (rfl : mfetch 7 5 = some (5, .putfield 36, 3, 1, 0, 0)) hb.1 rfl (isH_le hb 0) rfl hs1 ?_
  refine mEnds.stp 2 (pc' := 10) (l' := [some (.ref b), some (.ref b2)]) (st' := [.ref b2, .ref b]) (fun _ => rfl) ?_
  refine t_gi (rfl : mfetch 7 10 = some (10, .getfield 40, 3, 1, 1, 0)) hb2.1 rfl ?_
  obtain ⟨s2, hs2, hf⟩ := ob hf
  refine t_pi (rfl : mfetch 7 13 = some (13, .putfield 40, 3, 1, 1, 0)) hb.1 rfl (isH_le hb 0) rfl hs2 ?_
  refine mEnds.stp 2 (pc' := 18) (l' := [some (.ref b), some (.ref b2)]) (st' := [.ref b2, .ref b]) (fun _ => rfl) ?_
  refine t_gi (rfl : mfetch 7 18 = some (18, .getfield 43, 3, 1, 2, 0)) hb2.1 rfl ?_
  obtain ⟨s3, hs3, hf⟩ := ob hf
  refine t_pi (rfl : mfetch 7 21 = some (21, .putfield 43, 3, 1, 2, 0)) hb.1 rfl (isH_le hb 0) rfl hs3 ?_
  refine mEnds.stp 2 (pc' := 26) (l' := [some (.ref b), some (.ref b2)]) (st' := [.ref b2, .ref b]) (fun _ => rfl) ?_
  refine t_gi (rfl : mfetch 7 26 = some (26, .getfield 46, 3, 1, 3, 0)) hb2.1 rfl ?_
  obtain ⟨s4, hs4, hf⟩ := ob hf
  refine t_pi (rfl : mfetch 7 29 = some (29, .putfield 46, 3, 1, 3, 0)) hb.1 rfl (isH_le hb 0) rfl hs4 ?_
  refine mEnds.stp 2 (pc' := 34) (l' := [some (.ref b), some (.ref b2)]) (st' := [.ref b2, .ref b]) (fun _ => rfl) ?_
  refine t_gi (rfl : mfetch 7 34 = some (34, .getfield 49, 3, 1, 4, 0)) hb2.1 rfl ?_
  obtain ⟨s5, hs5, hf⟩ := ob hf
  refine t_pi (rfl : mfetch 7 37 = some (37, .putfield 49, 3, 1, 4, 0)) hb.1 rfl (isH_le hb 0) rfl hs5 ?_
  refine mEnds.stp 1 (pc' := 41) (l' := [some (.ref b), some (.ref b2)]) (st' := [.ref b2]) (fun _ => rfl) ?_
  refine t_gr (rfl : mfetch 7 41 = some (41, .getfield 9, 3, 1, 5, 0)) hb2.1 rfl ?_
  refine mEnds.stp 2 (pc' := 46) (l' := [some (.ref b), some (.ref b2)]) (st' := [.ref b, .int (nI 0), .ref (b2 + 1)]) (fun _ => rfl) ?_
  refine t_gr (rfl : mfetch 7 46 = some (46, .getfield 9, 3, 1, 5, 0)) hb.1 rfl ?_
  refine mEnds.stp 2 (pc' := 52) (l' := [some (.ref b), some (.ref b2)]) (st' := [.int (nI 6), .int (nI 0), .ref (b + 1), .int (nI 0), .ref (b2 + 1)]) (fun _ => rfl) ?_
  obtain ⟨s6, hs6, hf⟩ := ob hf
  refine t_cp (n := 6) (rfl : mfetch 7 52 = some (52, .invokestatic 52, 3, 998, 4, 0)) hb2.2.1 hb.2.1 (isH_le hb2 1) (isH_le hb 1) (by decide) (by decide) (by decide) (by decide) rfl hs6 ?_
  refine mEnds.stp 1 (pc' := 56) (l' := [some (.ref b), some (.ref b2)]) (st' := [.ref b2]) (fun _ => rfl) ?_
  refine t_gr (rfl : mfetch 7 56 = some (56, .getfield 15, 3, 1, 6, 0)) hb2.1 rfl ?_
  refine mEnds.stp 2 (pc' := 61) (l' := [some (.ref b), some (.ref b2)]) (st' := [.ref b, .int (nI 0), .ref (b2 + 2)]) (fun _ => rfl) ?_
  refine t_gr (rfl : mfetch 7 61 = some (61, .getfield 15, 3, 1, 6, 0)) hb.1 rfl ?_
  refine mEnds.stp 2 (pc' := 67) (l' := [some (.ref b), some (.ref b2)]) (st' := [.int (nI 6), .int (nI 0), .ref (b + 2), .int (nI 0), .ref (b2 + 2)]) (fun _ => rfl) ?_
  obtain ⟨s7, hs7, hf⟩ := ob hf
  refine t_cp (n := 6) (rfl : mfetch 7 67 = some (67, .invokestatic 52, 3, 998, 4, 0)) hb2.2.2.1 hb.2.2.1 (isH_le hb2 2) (isH_le hb 2) (by decide) (by decide) (by decide) (by decide) rfl hs7 ?_
  refine mEnds.stp 1 (pc' := 71) (l' := [some (.ref b), some (.ref b2)]) (st' := [.ref b2]) (fun _ => rfl) ?_
  refine t_gr (rfl : mfetch 7 71 = some (71, .getfield 18, 3, 1, 7, 0)) hb2.1 rfl ?_
  refine mEnds.stp 2 (pc' := 76) (l' := [some (.ref b), some (.ref b2)]) (st' := [.ref b, .int (nI 0), .ref (b2 + 3)]) (fun _ => rfl) ?_
  refine t_gr (rfl : mfetch 7 76 = some (76, .getfield 18, 3, 1, 7, 0)) hb.1 rfl ?_
  refine mEnds.stp 2 (pc' := 82) (l' := [some (.ref b), some (.ref b2)]) (st' := [.int (nI 6), .int (nI 0), .ref (b + 3), .int (nI 0), .ref (b2 + 3)]) (fun _ => rfl) ?_
  obtain ⟨s8, hs8, hf⟩ := ob hf
  refine t_cp (n := 6) (rfl : mfetch 7 82 = some (82, .invokestatic 52, 3, 998, 4, 0)) hb2.2.2.2.1 hb.2.2.2.1 (isH_le hb2 3) (isH_le hb 3) (by decide) (by decide) (by decide) (by decide) rfl hs8 ?_
  refine mEnds.stp 1 (pc' := 86) (l' := [some (.ref b), some (.ref b2)]) (st' := [.ref b2]) (fun _ => rfl) ?_
  refine t_gr (rfl : mfetch 7 86 = some (86, .getfield 21, 3, 1, 8, 0)) hb2.1 rfl ?_
  refine mEnds.stp 2 (pc' := 91) (l' := [some (.ref b), some (.ref b2)]) (st' := [.ref b, .int (nI 0), .ref (b2 + 4)]) (fun _ => rfl) ?_
  refine t_gr (rfl : mfetch 7 91 = some (91, .getfield 21, 3, 1, 8, 0)) hb.1 rfl ?_
  refine mEnds.stp 2 (pc' := 97) (l' := [some (.ref b), some (.ref b2)]) (st' := [.int (nI 6), .int (nI 0), .ref (b + 4), .int (nI 0), .ref (b2 + 4)]) (fun _ => rfl) ?_
  obtain ⟨s9, hs9, hf⟩ := ob hf
  refine t_cp (n := 6) (rfl : mfetch 7 97 = some (97, .invokestatic 52, 3, 998, 4, 0)) hb2.2.2.2.2.1 hb.2.2.2.2.1 (isH_le hb2 4) (isH_le hb 4) (by decide) (by decide) (by decide) (by decide) rfl hs9 ?_
  refine mEnds.stp 1 (pc' := 101) (l' := [some (.ref b), some (.ref b2)]) (st' := [.ref b2]) (fun _ => rfl) ?_
  refine t_gr (rfl : mfetch 7 101 = some (101, .getfield 24, 3, 1, 9, 0)) hb2.1 rfl ?_
  refine mEnds.stp 2 (pc' := 106) (l' := [some (.ref b), some (.ref b2)]) (st' := [.ref b, .int (nI 0), .ref (b2 + 5)]) (fun _ => rfl) ?_
  refine t_gr (rfl : mfetch 7 106 = some (106, .getfield 24, 3, 1, 9, 0)) hb.1 rfl ?_
  refine mEnds.stp 2 (pc' := 112) (l' := [some (.ref b), some (.ref b2)]) (st' := [.int (nI 6), .int (nI 0), .ref (b + 5), .int (nI 0), .ref (b2 + 5)]) (fun _ => rfl) ?_
  obtain ⟨s10, hs10, hf⟩ := ob hf
  refine t_cp (n := 6) (rfl : mfetch 7 112 = some (112, .invokestatic 52, 3, 998, 4, 0)) hb2.2.2.2.2.2.1 hb.2.2.2.2.2.1 (isH_le hb2 5) (isH_le hb 5) (by decide) (by decide) (by decide) (by decide) rfl hs10 ?_
  refine mEnds.stp 1 (pc' := 116) (l' := [some (.ref b), some (.ref b2)]) (st' := [.ref b2]) (fun _ => rfl) ?_
  refine t_gr (rfl : mfetch 7 116 = some (116, .getfield 27, 3, 1, 10, 0)) hb2.1 rfl ?_
  refine mEnds.stp 2 (pc' := 121) (l' := [some (.ref b), some (.ref b2)]) (st' := [.ref b, .int (nI 0), .ref (b2 + 6)]) (fun _ => rfl) ?_
  refine t_gr (rfl : mfetch 7 121 = some (121, .getfield 27, 3, 1, 10, 0)) hb.1 rfl ?_
  refine mEnds.stp 2 (pc' := 126) (l' := [some (.ref b), some (.ref b2)]) (st' := [.int (nI 5), .int (nI 0), .ref (b + 6), .int (nI 0), .ref (b2 + 6)]) (fun _ => rfl) ?_
  obtain ⟨s11, hs11, hf⟩ := ob hf
  refine t_cp (n := 5) (rfl : mfetch 7 126 = some (126, .invokestatic 52, 3, 998, 4, 0)) hb2.2.2.2.2.2.2.1 hb.2.2.2.2.2.2.1 (isH_le hb2 6) (isH_le hb 6) (by decide) (by decide) (by decide) (by decide) rfl hs11 ?_
  refine mEnds.stp 1 (pc' := 130) (l' := [some (.ref b), some (.ref b2)]) (st' := [.ref b2]) (fun _ => rfl) ?_
  refine t_gr (rfl : mfetch 7 130 = some (130, .getfield 30, 3, 1, 11, 0)) hb2.1 rfl ?_
  refine mEnds.stp 2 (pc' := 135) (l' := [some (.ref b), some (.ref b2)]) (st' := [.ref b, .int (nI 0), .ref (b2 + 7)]) (fun _ => rfl) ?_
  refine t_gr (rfl : mfetch 7 135 = some (135, .getfield 30, 3, 1, 11, 0)) hb.1 rfl ?_
  refine mEnds.stp 2 (pc' := 141) (l' := [some (.ref b), some (.ref b2)]) (st' := [.int (nI 8), .int (nI 0), .ref (b + 7), .int (nI 0), .ref (b2 + 7)]) (fun _ => rfl) ?_
  obtain ⟨s12, hs12, hf⟩ := ob hf
  refine t_cp (n := 8) (rfl : mfetch 7 141 = some (141, .invokestatic 52, 3, 998, 4, 0)) hb2.2.2.2.2.2.2.2 hb.2.2.2.2.2.2.2 (isH_le hb2 7) (isH_le hb 7) (by decide) (by decide) (by decide) (by decide) rfl hs12 ?_
  cases hf; exact mEnds.rt (fun _ => rfl)
def H_hasRoom (b : Nat) (x1 : Int32) (s : sg) : Option Int32 :=
  if x1 < 0 then
    some (nI 0)
  else
    if x1 < s b 0 then
      some (nI 1)
    else
      some (nI 0)
set_option maxRecDepth 100000 in
theorem ok_H_hasRoom {b : Nat} {x1 : Int32} (hb : isH b) {s : sg} {rv : Int32} (hf : H_hasRoom b x1 s = some rv) : mEnds [] 0 8 (0, [some (.ref b), some (.int x1)], [], hp shC s, 0, 0) (some (.int rv), hp shC s, 0, 0) := by
  unfold H_hasRoom at hf
  refine mEnds.stp 1 (pc' := 1) (l' := [some (.ref b), some (.int x1)]) (st' := [.int x1]) (fun _ => rfl) ?_
  by_cases hc1 : x1 < 0
  · rw [if_pos hc1] at hf
    refine t_jT (t := 16) (rfl : mfetch 8 1 = some (1, .ifCond .lt 15, 3, 0, 0, 0)) rfl (k_lt hc1) ?_
    refine mEnds.stp 1 (pc' := 17) (l' := [some (.ref b), some (.int x1)]) (st' := [.int (nI 0)]) (fun _ => rfl) ?_
    cases hf; exact mEnds.rt (fun _ => rfl)
  · rw [if_neg hc1] at hf
    refine t_jF (rfl : mfetch 8 1 = some (1, .ifCond .lt 15, 3, 0, 0, 0)) (k_lt' hc1) ?_
    refine mEnds.stp 2 (pc' := 6) (l' := [some (.ref b), some (.int x1)]) (st' := [.ref b, .int x1]) (fun _ => rfl) ?_
    refine t_gi (rfl : mfetch 8 6 = some (6, .getfield 36, 3, 1, 0, 0)) hb.1 rfl ?_
    by_cases hc2 : x1 < s b 0
    · rw [if_pos hc2] at hf
      refine t_cF (rfl : mfetch 8 9 = some (9, .if_icmp .ge 7, 3, 0, 0, 0)) (k_ge' hc2) ?_
      refine mEnds.stp 2 (pc' := 17) (l' := [some (.ref b), some (.int x1)]) (st' := [.int (nI 1)]) (fun _ => rfl) ?_
      cases hf; exact mEnds.rt (fun _ => rfl)
    · rw [if_neg hc2] at hf
      refine t_cT (t := 16) (rfl : mfetch 8 9 = some (9, .if_icmp .ge 7, 3, 0, 0, 0)) rfl (k_ge hc2) ?_
      refine mEnds.stp 1 (pc' := 17) (l' := [some (.ref b), some (.int x1)]) (st' := [.int (nI 0)]) (fun _ => rfl) ?_
      cases hf; exact mEnds.rt (fun _ => rfl)
def C_sumOf_4 (p : Nat) (n : Nat) (x1 : Int32) (s : sg) : Nat → Int32 → Int32 → Option Int32
  | 0, _, _ => none
  | fu + 1, x2, x3 =>
  if x3 < x1 then
    if x3 < nI n then
      (midx x3 n).bind fun j1 =>
      C_sumOf_4 p n x1 s fu (x2 + (s p j1)) (x3 + (nI 1))
    else
      some x2
  else
    some x2
set_option maxRecDepth 100000 in
theorem ok_C_sumOf_4 {p : Nat} {n : Nat} {x1 : Int32} {s : sg} (hp1 : shC[p]? = some (.inl (0, n))) (hp3 : Nat.ble mn0 p = true) : ∀ (fu : Nat) (x2 : Int32) (x3 : Int32) (rv : Int32), C_sumOf_4 p n x1 s fu x2 x3 = some rv → mEnds [] 0 106 (4, [some (.ref p), some (.int x1), some (.int x2), some (.int x3)], [], hp shC s, 0, 0) (some (.int rv), hp shC s, 0, 0)
  | 0, _, _, _, hf => by cases hf
  | fu + 1, x2, x3, rv, hf => by
    rw [C_sumOf_4] at hf
    refine mEnds.stp 2 (pc' := 6) (l' := [some (.ref p), some (.int x1), some (.int x2), some (.int x3)]) (st' := [.int x1, .int x3]) (fun _ => rfl) ?_
    by_cases hc1 : x3 < x1
    · rw [if_pos hc1] at hf
      refine t_cF (rfl : mfetch 106 6 = some (6, .if_icmp .ge 21, 3, 0, 0, 0)) (k_ge' hc1) ?_
      refine mEnds.stp 2 (pc' := 11) (l' := [some (.ref p), some (.int x1), some (.int x2), some (.int x3)]) (st' := [.ref p, .int x3]) (fun _ => rfl) ?_
      refine t_al (rfl : mfetch 106 11 = some (11, .arraylength, 1, 0, 0, 0)) hp1 rfl hp3 ?_
      by_cases hc2 : x3 < nI n
      · rw [if_pos hc2] at hf
        refine t_cF (rfl : mfetch 106 12 = some (12, .if_icmp .ge 15, 3, 0, 0, 0)) (k_ge' hc2) ?_
        refine mEnds.stp 3 (pc' := 18) (l' := [some (.ref p), some (.int x1), some (.int x2), some (.int x3)]) (st' := [.int x3, .ref p, .int x2]) (fun _ => rfl) ?_
        obtain ⟨j1, hj1, hf⟩ := ob hf
        refine t_ia (rfl : mfetch 106 18 = some (18, .iaload, 1, 0, 0, 0)) hp1 hp3 hj1 ?_
        refine mEnds.stp 4 (pc' := 4) (l' := [some (.ref p), some (.int x1), some (.int (x2 + (s p j1))), some (.int (x3 + (nI 1)))]) (st' := []) (fun _ => rfl) ?_
        refine mEnds.cut (l := [some (.ref p), some (.int x1), some (.int (x2 + (s p j1))), some (.int (x3 + (nI 1)))]) ⟨rfl, ⟨rfl, ⟨rfl, ⟨rfl, trivial⟩⟩⟩⟩ ?_
        exact ok_C_sumOf_4 hp1 hp3 fu (x2 + (s p j1)) (x3 + (nI 1)) _ hf
      · rw [if_neg hc2] at hf
        refine t_cT (t := 27) (rfl : mfetch 106 12 = some (12, .if_icmp .ge 15, 3, 0, 0, 0)) rfl (k_ge hc2) ?_
        refine mEnds.stp 1 (pc' := 28) (l' := [some (.ref p), some (.int x1), some (.int x2), some (.int x3)]) (st' := [.int x2]) (fun _ => rfl) ?_
        cases hf; exact mEnds.rt (fun _ => rfl)
    · rw [if_neg hc1] at hf
      refine t_cT (t := 27) (rfl : mfetch 106 6 = some (6, .if_icmp .ge 21, 3, 0, 0, 0)) rfl (k_ge hc1) ?_
      refine mEnds.stp 1 (pc' := 28) (l' := [some (.ref p), some (.int x1), some (.int x2), some (.int x3)]) (st' := [.int x2]) (fun _ => rfl) ?_
      cases hf; exact mEnds.rt (fun _ => rfl)
def C_sumOf (p : Nat) (n : Nat) (x1 : Int32) (s : sg) : Option Int32 :=
  C_sumOf_4 p n x1 s FU (nI 0) (nI 0)
set_option maxRecDepth 100000 in
theorem ok_C_sumOf {p : Nat} {n : Nat} {x1 : Int32} (hp1 : shC[p]? = some (.inl (0, n))) (hp3 : Nat.ble mn0 p = true) {s : sg} {rv : Int32} (hf : C_sumOf p n x1 s = some rv) : mEnds [] 0 106 (0, [some (.ref p), some (.int x1), none, none], [], hp shC s, 0, 0) (some (.int rv), hp shC s, 0, 0) := by
  unfold C_sumOf at hf
  refine mEnds.stp 4 (pc' := 4) (l' := [some (.ref p), some (.int x1), some (.int (nI 0)), some (.int (nI 0))]) (st' := []) (fun _ => rfl) ?_
  refine mEnds.cut (l := [some (.ref p), some (.int x1), some (.int (nI 0)), some (.int (nI 0))]) ⟨rfl, ⟨rfl, ⟨rfl, ⟨rfl, trivial⟩⟩⟩⟩ ?_
  exact ok_C_sumOf_4 hp1 hp3 FU (nI 0) (nI 0) _ hf
def H_warmthOfAll (b : Nat) (s : sg) : Option Int32 :=
  (C_sumOf (b + 1) 6 (s b 0) s).bind fun v1 =>
  some v1
set_option maxRecDepth 100000 in
theorem ok_H_warmthOfAll {b : Nat} (hb : isH b) {s : sg} {rv : Int32} (hf : H_warmthOfAll b s = some rv) : mEnds [] 1 15 (0, [some (.ref b)], [], hp shC s, 0, 0) (some (.int rv), hp shC s, 0, 0) := by
  unfold H_warmthOfAll at hf
  refine mEnds.stp 1 (pc' := 1) (l' := [some (.ref b)]) (st' := [.ref b]) (fun _ => rfl) ?_
  refine t_gr (rfl : mfetch 15 1 = some (1, .getfield 9, 3, 1, 5, 0)) hb.1 rfl ?_
  refine mEnds.stp 1 (pc' := 5) (l' := [some (.ref b)]) (st' := [.ref b, .ref (b + 1)]) (fun _ => rfl) ?_
  refine t_gi (rfl : mfetch 15 5 = some (5, .getfield 36, 3, 1, 0, 0)) hb.1 rfl ?_
  obtain ⟨v1, hv1, hf⟩ := ob hf
  refine t_cs (as := [.ref (b + 1), .int (s b 0)]) (st := []) (Or.inr rfl) (rfl : mfetch 15 8 = some (8, .invokestatic 64, 3, 106, 1, 0)) rfl rfl rfl (ok_C_sumOf hb.2.1 (isH_le hb 1) hv1) ?_
  cases hf; exact mEnds.rt (fun _ => rfl)
def H_coldestNow_5 (b : Nat) (s : sg) : Nat → Int32 → Int32 → Option Int32
  | 0, _, _ => none
  | fu + 1, x1, x2 =>
  if x2 < s b 0 then
    (midx x2 6).bind fun j1 =>
    H_coldestNow_5 b s fu (if s (b + 1) j1 < x1 then s (b + 1) j1 else x1) (x2 + (nI 1))
  else
    some x1
set_option maxRecDepth 100000 in
theorem ok_H_coldestNow_5 {b : Nat} {s : sg} (hb : isH b) : ∀ (fu : Nat) (x1 : Int32) (x2 : Int32) (rv : Int32), H_coldestNow_5 b s fu x1 x2 = some rv → mEnds [] 0 16 (5, [some (.ref b), some (.int x1), some (.int x2)], [], hp shC s, 0, 0) (some (.int rv), hp shC s, 0, 0)
  | 0, _, _, _, hf => by cases hf
  | fu + 1, x1, x2, rv, hf => by
    rw [H_coldestNow_5] at hf
    refine mEnds.stp 2 (pc' := 7) (l' := [some (.ref b), some (.int x1), some (.int x2)]) (st' := [.ref b, .int x2]) (fun _ => rfl) ?_
    refine t_gi (rfl : mfetch 16 7 = some (7, .getfield 36, 3, 1, 0, 0)) hb.1 rfl ?_
    by_cases hc1 : x2 < s b 0
    · rw [if_pos hc1] at hf
      refine t_cF (rfl : mfetch 16 10 = some (10, .if_icmp .ge 20, 3, 0, 0, 0)) (k_ge' hc1) ?_
      refine mEnds.stp 2 (pc' := 15) (l' := [some (.ref b), some (.int x1), some (.int x2)]) (st' := [.ref b, .int x1]) (fun _ => rfl) ?_
      refine t_gr (rfl : mfetch 16 15 = some (15, .getfield 9, 3, 1, 5, 0)) hb.1 rfl ?_
      refine mEnds.stp 1 (pc' := 19) (l' := [some (.ref b), some (.int x1), some (.int x2)]) (st' := [.int x2, .ref (b + 1), .int x1]) (fun _ => rfl) ?_
      obtain ⟨j1, hj1, hf⟩ := ob hf
      refine t_ia (rfl : mfetch 16 19 = some (19, .iaload, 1, 0, 0, 0)) hb.2.1 (isH_le hb 1) hj1 ?_
      refine mEnds.stp 4 (pc' := 5) (l' := [some (.ref b), some (.int (if s (b + 1) j1 < x1 then s (b + 1) j1 else x1)), some (.int (x2 + (nI 1)))]) (st' := []) (fun _ => rfl) ?_
      refine mEnds.cut (l := [some (.ref b), some (.int (if s (b + 1) j1 < x1 then s (b + 1) j1 else x1)), some (.int (x2 + (nI 1)))]) ⟨rfl, ⟨rfl, ⟨rfl, trivial⟩⟩⟩ ?_
      exact ok_H_coldestNow_5 hb fu (if s (b + 1) j1 < x1 then s (b + 1) j1 else x1) (x2 + (nI 1)) _ hf
    · rw [if_neg hc1] at hf
      refine t_cT (t := 30) (rfl : mfetch 16 10 = some (10, .if_icmp .ge 20, 3, 0, 0, 0)) rfl (k_ge hc1) ?_
      refine mEnds.stp 1 (pc' := 31) (l' := [some (.ref b), some (.int x1), some (.int x2)]) (st' := [.int x1]) (fun _ => rfl) ?_
      cases hf; exact mEnds.rt (fun _ => rfl)
def H_coldestNow (b : Nat) (s : sg) : Option Int32 :=
  H_coldestNow_5 b s FU (nI 99) (nI 0)
set_option maxRecDepth 100000 in
theorem ok_H_coldestNow {b : Nat} (hb : isH b) {s : sg} {rv : Int32} (hf : H_coldestNow b s = some rv) : mEnds [] 0 16 (0, [some (.ref b), none, none], [], hp shC s, 0, 0) (some (.int rv), hp shC s, 0, 0) := by
  unfold H_coldestNow at hf
  refine mEnds.stp 4 (pc' := 5) (l' := [some (.ref b), some (.int (nI 99)), some (.int (nI 0))]) (st' := []) (fun _ => rfl) ?_
  refine mEnds.cut (l := [some (.ref b), some (.int (nI 99)), some (.int (nI 0))]) ⟨rfl, ⟨rfl, ⟨rfl, trivial⟩⟩⟩ ?_
  exact ok_H_coldestNow_5 hb FU (nI 99) (nI 0) _ hf
def H_isLike_2 (b : Nat) (b2 : Nat) (s : sg) : Nat → Int32 → Option Int32
  | 0, _ => none
  | fu + 1, x2 =>
  if x2 < s b 0 then
    (midx x2 6).bind fun j1 =>
    (midx x2 6).bind fun j2 =>
    if s (b + 1) j1 = s (b2 + 1) j2 then
      H_isLike_2 b b2 s fu (x2 + (nI 1))
    else
      some (nI 0)
  else
    if s b 1 = s b2 1 then
      some (nI 1)
    else
      some (nI 0)
set_option maxRecDepth 100000 in
theorem ok_H_isLike_2 {b : Nat} {b2 : Nat} {s : sg} (hb : isH b) (hb2 : isH b2) : ∀ (fu : Nat) (x2 : Int32) (rv : Int32), H_isLike_2 b b2 s fu x2 = some rv → mEnds [] 0 17 (2, [some (.ref b), some (.ref b2), some (.int x2)], [], hp shC s, 0, 0) (some (.int rv), hp shC s, 0, 0)
  | 0, _, _, hf => by cases hf
  | fu + 1, x2, rv, hf => by
    rw [H_isLike_2] at hf
    refine mEnds.stp 2 (pc' := 4) (l' := [some (.ref b), some (.ref b2), some (.int x2)]) (st' := [.ref b, .int x2]) (fun _ => rfl) ?_
    refine t_gi (rfl : mfetch 17 4 = some (4, .getfield 36, 3, 1, 0, 0)) hb.1 rfl ?_
    by_cases hc1 : x2 < s b 0
    · rw [if_pos hc1] at hf
      refine t_cF (rfl : mfetch 17 7 = some (7, .if_icmp .ge 26, 3, 0, 0, 0)) (k_ge' hc1) ?_
      refine mEnds.stp 1 (pc' := 11) (l' := [some (.ref b), some (.ref b2), some (.int x2)]) (st' := [.ref b]) (fun _ => rfl) ?_
      refine t_gr (rfl : mfetch 17 11 = some (11, .getfield 9, 3, 1, 5, 0)) hb.1 rfl ?_
      refine mEnds.stp 1 (pc' := 15) (l' := [some (.ref b), some (.ref b2), some (.int x2)]) (st' := [.int x2, .ref (b + 1)]) (fun _ => rfl) ?_
      obtain ⟨j1, hj1, hf⟩ := ob hf
      refine t_ia (rfl : mfetch 17 15 = some (15, .iaload, 1, 0, 0, 0)) hb.2.1 (isH_le hb 1) hj1 ?_
      refine mEnds.stp 1 (pc' := 17) (l' := [some (.ref b), some (.ref b2), some (.int x2)]) (st' := [.ref b2, .int (s (b + 1) j1)]) (fun _ => rfl) ?_
      refine t_gr (rfl : mfetch 17 17 = some (17, .getfield 9, 3, 1, 5, 0)) hb2.1 rfl ?_
      refine mEnds.stp 1 (pc' := 21) (l' := [some (.ref b), some (.ref b2), some (.int x2)]) (st' := [.int x2, .ref (b2 + 1), .int (s (b + 1) j1)]) (fun _ => rfl) ?_
      obtain ⟨j2, hj2, hf⟩ := ob hf
      refine t_ia (rfl : mfetch 17 21 = some (21, .iaload, 1, 0, 0, 0)) hb2.2.1 (isH_le hb2 1) hj2 ?_
      by_cases hc3 : s (b + 1) j1 = s (b2 + 1) j2
      · rw [if_pos hc3] at hf
        refine t_cT (t := 27) (rfl : mfetch 17 22 = some (22, .if_icmp .eq 5, 3, 0, 0, 0)) rfl (k_eq hc3) ?_
        refine mEnds.stp 2 (pc' := 2) (l' := [some (.ref b), some (.ref b2), some (.int (x2 + (nI 1)))]) (st' := []) (fun _ => rfl) ?_
        refine mEnds.cut (l := [some (.ref b), some (.ref b2), some (.int (x2 + (nI 1)))]) ⟨rfl, ⟨rfl, ⟨rfl, trivial⟩⟩⟩ ?_
        exact ok_H_isLike_2 hb hb2 fu (x2 + (nI 1)) _ hf
      · rw [if_neg hc3] at hf
        refine t_cF (rfl : mfetch 17 22 = some (22, .if_icmp .eq 5, 3, 0, 0, 0)) (k_eq' hc3) ?_
        refine mEnds.stp 1 (pc' := 26) (l' := [some (.ref b), some (.ref b2), some (.int x2)]) (st' := [.int (nI 0)]) (fun _ => rfl) ?_
        cases hf; exact mEnds.rt (fun _ => rfl)
    · rw [if_neg hc1] at hf
      refine t_cT (t := 33) (rfl : mfetch 17 7 = some (7, .if_icmp .ge 26, 3, 0, 0, 0)) rfl (k_ge hc1) ?_
      refine mEnds.stp 1 (pc' := 34) (l' := [some (.ref b), some (.ref b2), some (.int x2)]) (st' := [.ref b]) (fun _ => rfl) ?_
      refine t_gi (rfl : mfetch 17 34 = some (34, .getfield 40, 3, 1, 1, 0)) hb.1 rfl ?_
      refine mEnds.stp 1 (pc' := 38) (l' := [some (.ref b), some (.ref b2), some (.int x2)]) (st' := [.ref b2, .int (s b 1)]) (fun _ => rfl) ?_
      refine t_gi (rfl : mfetch 17 38 = some (38, .getfield 40, 3, 1, 1, 0)) hb2.1 rfl ?_
      by_cases hc2 : s b 1 = s b2 1
      · rw [if_pos hc2] at hf
        refine t_cF (rfl : mfetch 17 41 = some (41, .if_icmp .ne 7, 3, 0, 0, 0)) (k_ne' hc2) ?_
        refine mEnds.stp 2 (pc' := 49) (l' := [some (.ref b), some (.ref b2), some (.int x2)]) (st' := [.int (nI 1)]) (fun _ => rfl) ?_
        cases hf; exact mEnds.rt (fun _ => rfl)
      · rw [if_neg hc2] at hf
        refine t_cT (t := 48) (rfl : mfetch 17 41 = some (41, .if_icmp .ne 7, 3, 0, 0, 0)) rfl (k_ne hc2) ?_
        refine mEnds.stp 1 (pc' := 49) (l' := [some (.ref b), some (.ref b2), some (.int x2)]) (st' := [.int (nI 0)]) (fun _ => rfl) ?_
        cases hf; exact mEnds.rt (fun _ => rfl)
def H_isLike (b : Nat) (b2 : Nat) (s : sg) : Option Int32 :=
  H_isLike_2 b b2 s FU (nI 0)
set_option maxRecDepth 100000 in
theorem ok_H_isLike {b : Nat} {b2 : Nat} (hb : isH b) (hb2 : isH b2) {s : sg} {rv : Int32} (hf : H_isLike b b2 s = some rv) : mEnds [] 0 17 (0, [some (.ref b), some (.ref b2), none], [], hp shC s, 0, 0) (some (.int rv), hp shC s, 0, 0) := by
  unfold H_isLike at hf
  refine mEnds.stp 2 (pc' := 2) (l' := [some (.ref b), some (.ref b2), some (.int (nI 0))]) (st' := []) (fun _ => rfl) ?_
  refine mEnds.cut (l := [some (.ref b), some (.ref b2), some (.int (nI 0))]) ⟨rfl, ⟨rfl, ⟨rfl, trivial⟩⟩⟩ ?_
  exact ok_H_isLike_2 hb hb2 FU (nI 0) _ hf
def C_within (x0 : Int32) (x1 : Int32) (x2 : Int32) (s : sg) : Option Int32 :=
  if x0 < x1 then
    some (nI 0)
  else
    if x2 < x0 then
      some (nI 0)
    else
      some (nI 1)
set_option maxRecDepth 100000 in
theorem ok_C_within {x0 : Int32} {x1 : Int32} {x2 : Int32} {s : sg} {rv : Int32} (hf : C_within x0 x1 x2 s = some rv) : mEnds [] 0 105 (0, [some (.int x0), some (.int x1), some (.int x2)], [], hp shC s, 0, 0) (some (.int rv), hp shC s, 0, 0) := by
  unfold C_within at hf
  refine mEnds.stp 2 (pc' := 2) (l' := [some (.int x0), some (.int x1), some (.int x2)]) (st' := [.int x1, .int x0]) (fun _ => rfl) ?_
  by_cases hc1 : x0 < x1
  · rw [if_pos hc1] at hf
    refine t_cT (t := 14) (rfl : mfetch 105 2 = some (2, .if_icmp .lt 12, 3, 0, 0, 0)) rfl (k_lt hc1) ?_
    refine mEnds.stp 1 (pc' := 15) (l' := [some (.int x0), some (.int x1), some (.int x2)]) (st' := [.int (nI 0)]) (fun _ => rfl) ?_
    cases hf; exact mEnds.rt (fun _ => rfl)
  · rw [if_neg hc1] at hf
    refine t_cF (rfl : mfetch 105 2 = some (2, .if_icmp .lt 12, 3, 0, 0, 0)) (k_lt' hc1) ?_
    refine mEnds.stp 2 (pc' := 7) (l' := [some (.int x0), some (.int x1), some (.int x2)]) (st' := [.int x2, .int x0]) (fun _ => rfl) ?_
    by_cases hc2 : x2 < x0
    · rw [if_pos hc2] at hf
      refine t_cT (t := 14) (rfl : mfetch 105 7 = some (7, .if_icmp .gt 7, 3, 0, 0, 0)) rfl (k_gt hc2) ?_
      refine mEnds.stp 1 (pc' := 15) (l' := [some (.int x0), some (.int x1), some (.int x2)]) (st' := [.int (nI 0)]) (fun _ => rfl) ?_
      cases hf; exact mEnds.rt (fun _ => rfl)
    · rw [if_neg hc2] at hf
      refine t_cF (rfl : mfetch 105 7 = some (7, .if_icmp .gt 7, 3, 0, 0, 0)) (k_gt' hc2) ?_
      refine mEnds.stp 2 (pc' := 15) (l' := [some (.int x0), some (.int x1), some (.int x2)]) (st' := [.int (nI 1)]) (fun _ => rfl) ?_
      cases hf; exact mEnds.rt (fun _ => rfl)
def H_markRefused (b : Nat) (x1 : Int32) (x2 : Int32) (s : sg) : Option Int32 :=
  (H_hasRoom b x1 s).bind fun v1 =>
  if v1 = 0 then
    some (-1)
  else
    (C_within x2 (nI 0) (nI 99) s).bind fun v2 =>
    if v2 = 0 then
      some (-1)
    else
      (H_hasTongue b x1 s).bind fun v3 =>
      if v3 = 0 then
        some (-2)
      else
        some (nI 0)
set_option maxRecDepth 100000 in
theorem ok_H_markRefused {b : Nat} {x1 : Int32} {x2 : Int32} (hb : isH b) {s : sg} {rv : Int32} (hf : H_markRefused b x1 x2 s = some rv) : mEnds [] 1 18 (0, [some (.ref b), some (.int x1), some (.int x2)], [], hp shC s, 0, 0) (some (.int rv), hp shC s, 0, 0) := by
  unfold H_markRefused at hf
  refine mEnds.stp 2 (pc' := 2) (l' := [some (.ref b), some (.int x1), some (.int x2)]) (st' := [.int x1, .ref b]) (fun _ => rfl) ?_
  obtain ⟨v1, hv1, hf⟩ := ob hf
  refine t_cv (as := [.int x1]) (st := []) (rfl : mfetch 18 2 = some (2, .invokevirtual 74, 3, 8, 0, 0)) hb.1 rfl rfl rfl rfl (ok_H_hasRoom hb hv1) ?_
  by_cases hc1 : v1 = 0
  · rw [if_pos hc1] at hf
    refine t_jT (t := 18) (rfl : mfetch 18 5 = some (5, .ifCond .eq 13, 3, 0, 0, 0)) rfl (k_eq hc1) ?_
    refine mEnds.stp 1 (pc' := 19) (l' := [some (.ref b), some (.int x1), some (.int x2)]) (st' := [.int (-1)]) (fun _ => rfl) ?_
    cases hf; exact mEnds.rt (fun _ => rfl)
  · rw [if_neg hc1] at hf
    refine t_jF (rfl : mfetch 18 5 = some (5, .ifCond .eq 13, 3, 0, 0, 0)) (k_eq' hc1) ?_
    refine mEnds.stp 3 (pc' := 12) (l' := [some (.ref b), some (.int x1), some (.int x2)]) (st' := [.int (nI 99), .int (nI 0), .int x2]) (fun _ => rfl) ?_
    obtain ⟨v2, hv2, hf⟩ := ob hf
    refine t_cs (as := [.int x2, .int (nI 0), .int (nI 99)]) (st := []) (Or.inr rfl) (rfl : mfetch 18 12 = some (12, .invokestatic 78, 3, 105, 1, 0)) rfl rfl rfl (ok_C_within hv2) ?_
    by_cases hc2 : v2 = 0
    · rw [if_pos hc2] at hf
      refine t_jF (rfl : mfetch 18 15 = some (15, .ifCond .ne 5, 3, 0, 0, 0)) (k_ne' hc2) ?_
      refine mEnds.stp 1 (pc' := 19) (l' := [some (.ref b), some (.int x1), some (.int x2)]) (st' := [.int (-1)]) (fun _ => rfl) ?_
      cases hf; exact mEnds.rt (fun _ => rfl)
    · rw [if_neg hc2] at hf
      refine t_jT (t := 20) (rfl : mfetch 18 15 = some (15, .ifCond .ne 5, 3, 0, 0, 0)) rfl (k_ne hc2) ?_
      refine mEnds.stp 2 (pc' := 22) (l' := [some (.ref b), some (.int x1), some (.int x2)]) (st' := [.int x1, .ref b]) (fun _ => rfl) ?_
      obtain ⟨v3, hv3, hf⟩ := ob hf
      refine t_cv (as := [.int x1]) (st := []) (rfl : mfetch 18 22 = some (22, .invokevirtual 82, 3, 10, 0, 0)) hb.1 rfl rfl rfl rfl (ok_H_hasTongue hb hv3) ?_
      by_cases hc3 : v3 = 0
      · rw [if_pos hc3] at hf
        refine t_jT (t := 32) (rfl : mfetch 18 25 = some (25, .ifCond .eq 7, 3, 0, 0, 0)) rfl (k_eq hc3) ?_
        refine mEnds.stp 1 (pc' := 34) (l' := [some (.ref b), some (.int x1), some (.int x2)]) (st' := [.int (-2)]) (fun _ => rfl) ?_
        cases hf; exact mEnds.rt (fun _ => rfl)
      · rw [if_neg hc3] at hf
        refine t_jF (rfl : mfetch 18 25 = some (25, .ifCond .eq 7, 3, 0, 0, 0)) (k_eq' hc3) ?_
        refine mEnds.stp 2 (pc' := 34) (l' := [some (.ref b), some (.int x1), some (.int x2)]) (st' := [.int (nI 0)]) (fun _ => rfl) ?_
        cases hf; exact mEnds.rt (fun _ => rfl)
def H_takesMarkAndHour (b : Nat) (x1 : Int32) (x2 : Int32) (s : sg) : Option (Int32 × sg) :=
  (H_markRefused b x1 x2 s).bind fun v1 =>
  if v1 = 0 then
    if s b 2 < nI 999 then
      (midx x1 6).bind fun j1 =>
      (some (up s (b + 5) j1 x2)).bind fun s1 =>
      (H_passHour b s1).bind fun s2 =>
      some (nI 1, s2)
    else
      some (nI 0, s)
  else
    some (nI 0, s)
set_option maxRecDepth 100000 in
theorem ok_H_takesMarkAndHour {b : Nat} {x1 : Int32} {x2 : Int32} (hb : isH b) {s : sg} {rv : (Int32 × sg)} (hf : H_takesMarkAndHour b x1 x2 s = some rv) : mEnds [] 4 19 (0, [some (.ref b), some (.int x1), some (.int x2)], [], hp shC s, 0, 0) (some (.int rv.1), hp shC rv.2, 0, 0) := by
  unfold H_takesMarkAndHour at hf
  refine mEnds.stp 3 (pc' := 3) (l' := [some (.ref b), some (.int x1), some (.int x2)]) (st' := [.int x2, .int x1, .ref b]) (fun _ => rfl) ?_
  obtain ⟨v1, hv1, hf⟩ := ob hf
  refine t_cv (as := [.int x1, .int x2]) (st := []) (rfl : mfetch 19 3 = some (3, .invokevirtual 85, 3, 18, 0, 0)) hb.1 rfl rfl rfl rfl ((ok_H_markRefused hb hv1).deep 2) ?_
  by_cases hc1 : v1 = 0
  · rw [if_pos hc1] at hf
    refine t_jF (rfl : mfetch 19 6 = some (6, .ifCond .ne 13, 3, 0, 0, 0)) (k_ne' hc1) ?_
    refine mEnds.stp 1 (pc' := 10) (l' := [some (.ref b), some (.int x1), some (.int x2)]) (st' := [.ref b]) (fun _ => rfl) ?_
    refine t_gi (rfl : mfetch 19 10 = some (10, .getfield 43, 3, 1, 2, 0)) hb.1 rfl ?_
    refine mEnds.stp 1 (pc' := 16) (l' := [some (.ref b), some (.int x1), some (.int x2)]) (st' := [.int (nI 999), .int (s b 2)]) (fun _ => rfl) ?_
    by_cases hc2 : s b 2 < nI 999
    · rw [if_pos hc2] at hf
      refine t_cT (t := 21) (rfl : mfetch 19 16 = some (16, .if_icmp .lt 5, 3, 0, 0, 0)) rfl (k_lt hc2) ?_
      refine mEnds.stp 1 (pc' := 22) (l' := [some (.ref b), some (.int x1), some (.int x2)]) (st' := [.ref b]) (fun _ => rfl) ?_
      refine t_gr (rfl : mfetch 19 22 = some (22, .getfield 24, 3, 1, 9, 0)) hb.1 rfl ?_
      refine mEnds.stp 2 (pc' := 27) (l' := [some (.ref b), some (.int x1), some (.int x2)]) (st' := [.int x2, .int x1, .ref (b + 5)]) (fun _ => rfl) ?_
      obtain ⟨j1, hj1, hf⟩ := ob hf
      obtain ⟨s1, hs1, hf⟩ := ob hf
      refine t_is (rfl : mfetch 19 27 = some (27, .iastore, 1, 0, 0, 0)) hb.2.2.2.2.2.1 (isH_le hb 5) hj1 hs1 ?_
      refine mEnds.stp 1 (pc' := 29) (l' := [some (.ref b), some (.int x1), some (.int x2)]) (st' := [.ref b]) (fun _ => rfl) ?_
      obtain ⟨s2, hs2, hf⟩ := ob hf
      refine t_cv (as := []) (st := []) (rfl : mfetch 19 29 = some (29, .invokevirtual 88, 3, 23, 0, 0)) hb.1 rfl rfl rfl rfl (ok_H_passHour hb hs2) ?_
      refine mEnds.stp 1 (pc' := 33) (l' := [some (.ref b), some (.int x1), some (.int x2)]) (st' := [.int (nI 1)]) (fun _ => rfl) ?_
      exact mEnds.rti (Option.some.inj hf) (fun _ => rfl)
    · rw [if_neg hc2] at hf
      refine t_cF (rfl : mfetch 19 16 = some (16, .if_icmp .lt 5, 3, 0, 0, 0)) (k_lt' hc2) ?_
      refine mEnds.stp 1 (pc' := 20) (l' := [some (.ref b), some (.int x1), some (.int x2)]) (st' := [.int (nI 0)]) (fun _ => rfl) ?_
      exact mEnds.rti (Option.some.inj hf) (fun _ => rfl)
  · rw [if_neg hc1] at hf
    refine t_jT (t := 19) (rfl : mfetch 19 6 = some (6, .ifCond .ne 13, 3, 0, 0, 0)) rfl (k_ne hc1) ?_
    refine mEnds.stp 1 (pc' := 20) (l' := [some (.ref b), some (.int x1), some (.int x2)]) (st' := [.int (nI 0)]) (fun _ => rfl) ?_
    exact mEnds.rti (Option.some.inj hf) (fun _ => rfl)
def H_takeTongue (b : Nat) (x1 : Int32) (s : sg) : Option sg :=
  (midx x1 6).bind fun j1 =>
  (some (up s (b + 4) j1 (-1))).bind fun s1 =>
  (some (up s1 b 1 ((s1 b 1) &&& (((nI 1) <<< (x1 &&& 31)) ^^^ (-1))))).bind fun s2 =>
  some s2
set_option maxRecDepth 100000 in
theorem ok_H_takeTongue {b : Nat} {x1 : Int32} (hb : isH b) {s : sg} {rv : sg} (hf : H_takeTongue b x1 s = some rv) : mEnds [] 0 20 (0, [some (.ref b), some (.int x1)], [], hp shC s, 0, 0) (none, hp shC rv, 0, 0) := by
  unfold H_takeTongue at hf
  refine mEnds.stp 1 (pc' := 1) (l' := [some (.ref b), some (.int x1)]) (st' := [.ref b]) (fun _ => rfl) ?_
  refine t_gr (rfl : mfetch 20 1 = some (1, .getfield 21, 3, 1, 8, 0)) hb.1 rfl ?_
  refine mEnds.stp 2 (pc' := 6) (l' := [some (.ref b), some (.int x1)]) (st' := [.int (-1), .int x1, .ref (b + 4)]) (fun _ => rfl) ?_
  obtain ⟨j1, hj1, hf⟩ := ob hf
  obtain ⟨s1, hs1, hf⟩ := ob hf
  refine t_is (rfl : mfetch 20 6 = some (6, .iastore, 1, 0, 0, 0)) hb.2.2.2.2.1 (isH_le hb 4) hj1 hs1 ?_
  refine mEnds.stp 2 (pc' := 9) (l' := [some (.ref b), some (.int x1)]) (st' := [.ref b, .ref b]) (fun _ => rfl) ?_
  refine t_gi (rfl : mfetch 20 9 = some (9, .getfield 40, 3, 1, 1, 0)) hb.1 rfl ?_
  refine mEnds.stp 6 (pc' := 18) (l' := [some (.ref b), some (.int x1)]) (st' := [.int ((s1 b 1) &&& (((nI 1) <<< (x1 &&& 31)) ^^^ (-1))), .ref b]) (fun _ => rfl) ?_
  obtain ⟨s2, hs2, hf⟩ := ob hf
  refine t_pi (rfl : mfetch 20 18 = some (18, .putfield 40, 3, 1, 1, 0)) hb.1 rfl (isH_le hb 0) rfl hs2 ?_
  cases hf; exact mEnds.rt (fun _ => rfl)
def C_exchange (p : Nat) (n : Nat) (x1 : Int32) (x2 : Int32) (s : sg) : Option (Int32 × sg) :=
  (midx x1 n).bind fun j1 =>
  (midx x1 n).bind fun j2 =>
  (some (up s p j2 x2)).bind fun s1 =>
  some (s p j1, s1)
set_option maxRecDepth 100000 in
theorem ok_C_exchange {p : Nat} {n : Nat} {x1 : Int32} {x2 : Int32} (hp1 : shC[p]? = some (.inl (0, n))) (hp3 : Nat.ble mn0 p = true) {s : sg} {rv : (Int32 × sg)} (hf : C_exchange p n x1 x2 s = some rv) : mEnds [] 0 107 (0, [some (.ref p), some (.int x1), some (.int x2), none], [], hp shC s, 0, 0) (some (.int rv.1), hp shC rv.2, 0, 0) := by
  unfold C_exchange at hf
  refine mEnds.stp 2 (pc' := 2) (l' := [some (.ref p), some (.int x1), some (.int x2), none]) (st' := [.int x1, .ref p]) (fun _ => rfl) ?_
  obtain ⟨j1, hj1, hf⟩ := ob hf
  refine t_ia (rfl : mfetch 107 2 = some (2, .iaload, 1, 0, 0, 0)) hp1 hp3 hj1 ?_
  refine mEnds.stp 4 (pc' := 7) (l' := [some (.ref p), some (.int x1), some (.int x2), some (.int (s p j1))]) (st' := [.int x2, .int x1, .ref p]) (fun _ => rfl) ?_
  obtain ⟨j2, hj2, hf⟩ := ob hf
  obtain ⟨s1, hs1, hf⟩ := ob hf
  refine t_is (rfl : mfetch 107 7 = some (7, .iastore, 1, 0, 0, 0)) hp1 hp3 hj2 hs1 ?_
  refine mEnds.stp 1 (pc' := 9) (l' := [some (.ref p), some (.int x1), some (.int x2), some (.int (s p j1))]) (st' := [.int (s p j1)]) (fun _ => rfl) ?_
  exact mEnds.rti (Option.some.inj hf) (fun _ => rfl)
def H_exchangeTongues_53 (b : Nat) (x2 : Int32) (s : sg) : Option sg :=
  (H_hasTongue b x2 s).bind fun v1 =>
  if v1 = 0 then
    (H_takeTongue b x2 s).bind fun s1 =>
    some s1
  else
    some s
set_option maxRecDepth 100000 in
theorem ok_H_exchangeTongues_53 {b : Nat} {x2 : Int32} (hb : isH b) {s : sg} {rv : sg} (hf : H_exchangeTongues_53 b x2 s = some rv) : mEnds [] 1 21 (53, [some (.ref b), none, some (.int x2)], [], hp shC s, 0, 0) (none, hp shC rv, 0, 0) := by
  unfold H_exchangeTongues_53 at hf
  refine mEnds.stp 2 (pc' := 55) (l' := [some (.ref b), none, some (.int x2)]) (st' := [.int x2, .ref b]) (fun _ => rfl) ?_
  obtain ⟨v1, hv1, hf⟩ := ob hf
  refine t_cv (as := [.int x2]) (st := []) (rfl : mfetch 21 55 = some (55, .invokevirtual 82, 3, 10, 0, 0)) hb.1 rfl rfl rfl rfl (ok_H_hasTongue hb hv1) ?_
  by_cases hc1 : v1 = 0
  · rw [if_pos hc1] at hf
    refine t_jF (rfl : mfetch 21 58 = some (58, .ifCond .ne 8, 3, 0, 0, 0)) (k_ne' hc1) ?_
    refine mEnds.stp 2 (pc' := 63) (l' := [some (.ref b), none, some (.int x2)]) (st' := [.int x2, .ref b]) (fun _ => rfl) ?_
    obtain ⟨s1, hs1, hf⟩ := ob hf
    refine t_cv (as := [.int x2]) (st := []) (rfl : mfetch 21 63 = some (63, .invokevirtual 95, 3, 20, 0, 0)) hb.1 rfl rfl rfl rfl (ok_H_takeTongue hb hs1) ?_
    cases hf; exact mEnds.rt (fun _ => rfl)
  · rw [if_neg hc1] at hf
    refine t_jT (t := 66) (rfl : mfetch 21 58 = some (58, .ifCond .ne 8, 3, 0, 0, 0)) rfl (k_ne hc1) ?_
    cases hf; exact mEnds.rt (fun _ => rfl)
def H_exchangeTongues (b : Nat) (x1 : Int32) (x2 : Int32) (s : sg) : Option sg :=
  (midx x1 6).bind fun j1 =>
  (C_exchange (b + 4) 6 x2 (s (b + 4) j1) s).bind fun v1 =>
  (midx x1 6).bind fun j2 =>
  (some (up v1.2 (b + 4) j2 v1.1)).bind fun s1 =>
  (midx x1 6).bind fun j3 =>
  (C_exchange (b + 5) 6 x2 (s1 (b + 5) j3) s1).bind fun v2 =>
  (midx x1 6).bind fun j4 =>
  (some (up v2.2 (b + 5) j4 v2.1)).bind fun s2 =>
  (H_hasTongue b x1 s2).bind fun v3 =>
  if v3 = 0 then
    (H_takeTongue b x1 s2).bind fun s3 =>
    H_exchangeTongues_53 b x2 s3
  else
    H_exchangeTongues_53 b x2 s2
set_option maxRecDepth 100000 in
theorem ok_H_exchangeTongues {b : Nat} {x1 : Int32} {x2 : Int32} (hb : isH b) {s : sg} {rv : sg} (hf : H_exchangeTongues b x1 x2 s = some rv) : mEnds [] 1 21 (0, [some (.ref b), some (.int x1), some (.int x2)], [], hp shC s, 0, 0) (none, hp shC rv, 0, 0) := by
  unfold H_exchangeTongues at hf
  refine mEnds.stp 1 (pc' := 1) (l' := [some (.ref b), some (.int x1), some (.int x2)]) (st' := [.ref b]) (fun _ => rfl) ?_
  refine t_gr (rfl : mfetch 21 1 = some (1, .getfield 21, 3, 1, 8, 0)) hb.1 rfl ?_
  refine mEnds.stp 2 (pc' := 6) (l' := [some (.ref b), some (.int x1), some (.int x2)]) (st' := [.ref b, .int x1, .ref (b + 4)]) (fun _ => rfl) ?_
  refine t_gr (rfl : mfetch 21 6 = some (6, .getfield 21, 3, 1, 8, 0)) hb.1 rfl ?_
  refine mEnds.stp 2 (pc' := 11) (l' := [some (.ref b), some (.int x1), some (.int x2)]) (st' := [.ref b, .int x2, .ref (b + 4), .int x1, .ref (b + 4)]) (fun _ => rfl) ?_
  refine t_gr (rfl : mfetch 21 11 = some (11, .getfield 21, 3, 1, 8, 0)) hb.1 rfl ?_
  refine mEnds.stp 1 (pc' := 15) (l' := [some (.ref b), some (.int x1), some (.int x2)]) (st' := [.int x1, .ref (b + 4), .int x2, .ref (b + 4), .int x1, .ref (b + 4)]) (fun _ => rfl) ?_
  obtain ⟨j1, hj1, hf⟩ := ob hf
  refine t_ia (rfl : mfetch 21 15 = some (15, .iaload, 1, 0, 0, 0)) hb.2.2.2.2.1 (isH_le hb 4) hj1 ?_
  obtain ⟨v1, hv1, hf⟩ := ob hf
  refine t_cs (as := [.ref (b + 4), .int x2, .int (s (b + 4) j1)]) (st := [.int x1, .ref (b + 4)]) (Or.inr rfl) (rfl : mfetch 21 16 = some (16, .invokestatic 91, 3, 107, 1, 0)) rfl rfl rfl (ok_C_exchange hb.2.2.2.2.1 (isH_le hb 4) hv1) ?_
  obtain ⟨j2, hj2, hf⟩ := ob hf
  obtain ⟨s1, hs1, hf⟩ := ob hf
  refine t_is (rfl : mfetch 21 19 = some (19, .iastore, 1, 0, 0, 0)) hb.2.2.2.2.1 (isH_le hb 4) hj2 hs1 ?_
  refine mEnds.stp 1 (pc' := 21) (l' := [some (.ref b), some (.int x1), some (.int x2)]) (st' := [.ref b]) (fun _ => rfl) ?_
  refine t_gr (rfl : mfetch 21 21 = some (21, .getfield 24, 3, 1, 9, 0)) hb.1 rfl ?_
  refine mEnds.stp 2 (pc' := 26) (l' := [some (.ref b), some (.int x1), some (.int x2)]) (st' := [.ref b, .int x1, .ref (b + 5)]) (fun _ => rfl) ?_
  refine t_gr (rfl : mfetch 21 26 = some (26, .getfield 24, 3, 1, 9, 0)) hb.1 rfl ?_
  refine mEnds.stp 2 (pc' := 31) (l' := [some (.ref b), some (.int x1), some (.int x2)]) (st' := [.ref b, .int x2, .ref (b + 5), .int x1, .ref (b + 5)]) (fun _ => rfl) ?_
  refine t_gr (rfl : mfetch 21 31 = some (31, .getfield 24, 3, 1, 9, 0)) hb.1 rfl ?_
  refine mEnds.stp 1 (pc' := 35) (l' := [some (.ref b), some (.int x1), some (.int x2)]) (st' := [.int x1, .ref (b + 5), .int x2, .ref (b + 5), .int x1, .ref (b + 5)]) (fun _ => rfl) ?_
  obtain ⟨j3, hj3, hf⟩ := ob hf
  refine t_ia (rfl : mfetch 21 35 = some (35, .iaload, 1, 0, 0, 0)) hb.2.2.2.2.2.1 (isH_le hb 5) hj3 ?_
  obtain ⟨v2, hv2, hf⟩ := ob hf
  refine t_cs (as := [.ref (b + 5), .int x2, .int (s1 (b + 5) j3)]) (st := [.int x1, .ref (b + 5)]) (Or.inr rfl) (rfl : mfetch 21 36 = some (36, .invokestatic 91, 3, 107, 1, 0)) rfl rfl rfl (ok_C_exchange hb.2.2.2.2.2.1 (isH_le hb 5) hv2) ?_
  obtain ⟨j4, hj4, hf⟩ := ob hf
  obtain ⟨s2, hs2, hf⟩ := ob hf
  refine t_is (rfl : mfetch 21 39 = some (39, .iastore, 1, 0, 0, 0)) hb.2.2.2.2.2.1 (isH_le hb 5) hj4 hs2 ?_
  refine mEnds.stp 2 (pc' := 42) (l' := [some (.ref b), some (.int x1), some (.int x2)]) (st' := [.int x1, .ref b]) (fun _ => rfl) ?_
  obtain ⟨v3, hv3, hf⟩ := ob hf
  refine t_cv (as := [.int x1]) (st := []) (rfl : mfetch 21 42 = some (42, .invokevirtual 82, 3, 10, 0, 0)) hb.1 rfl rfl rfl rfl (ok_H_hasTongue hb hv3) ?_
  by_cases hc1 : v3 = 0
  · rw [if_pos hc1] at hf
    refine t_jF (rfl : mfetch 21 45 = some (45, .ifCond .ne 8, 3, 0, 0, 0)) (k_ne' hc1) ?_
    refine mEnds.stp 2 (pc' := 50) (l' := [some (.ref b), some (.int x1), some (.int x2)]) (st' := [.int x1, .ref b]) (fun _ => rfl) ?_
    obtain ⟨s3, hs3, hf⟩ := ob hf
    refine t_cv (as := [.int x1]) (st := []) (rfl : mfetch 21 50 = some (50, .invokevirtual 95, 3, 20, 0, 0)) hb.1 rfl rfl rfl rfl (ok_H_takeTongue hb hs3) ?_
    refine mEnds.cut (l := [some (.ref b), none, some (.int x2)]) ⟨rfl, ⟨rfl, trivial⟩⟩ ?_
    exact ok_H_exchangeTongues_53 hb hf
  · rw [if_neg hc1] at hf
    refine t_jT (t := 53) (rfl : mfetch 21 45 = some (45, .ifCond .ne 8, 3, 0, 0, 0)) rfl (k_ne hc1) ?_
    refine mEnds.cut (l := [some (.ref b), none, some (.int x2)]) ⟨rfl, ⟨rfl, trivial⟩⟩ ?_
    exact ok_H_exchangeTongues_53 hb hf
def H_passHours_7 (b : Nat) (x1 : Int32) (x2 : Int32) : Nat → Int32 → sg → Option (Int32 × sg)
  | 0, _, _ => none
  | fu + 1, x3, s =>
  if x3 < x1 then
    (H_passHour b s).bind fun s1 =>
    H_passHours_7 b x1 x2 fu (x3 + (nI 1)) s1
  else
    some ((s b 3) - x2, s)
set_option maxRecDepth 100000 in
theorem ok_H_passHours_7 {b : Nat} {x1 : Int32} {x2 : Int32} (hb : isH b) : ∀ (fu : Nat) (x3 : Int32) (s : sg) (rv : (Int32 × sg)), H_passHours_7 b x1 x2 fu x3 s = some rv → mEnds [] 4 22 (7, [some (.ref b), some (.int x1), some (.int x2), some (.int x3)], [], hp shC s, 0, 0) (some (.int rv.1), hp shC rv.2, 0, 0)
  | 0, _, _, _, hf => by cases hf
  | fu + 1, x3, s, rv, hf => by
    rw [H_passHours_7] at hf
    refine mEnds.stp 2 (pc' := 9) (l' := [some (.ref b), some (.int x1), some (.int x2), some (.int x3)]) (st' := [.int x1, .int x3]) (fun _ => rfl) ?_
    by_cases hc1 : x3 < x1
    · rw [if_pos hc1] at hf
      refine t_cF (rfl : mfetch 22 9 = some (9, .if_icmp .ge 13, 3, 0, 0, 0)) (k_ge' hc1) ?_
      refine mEnds.stp 1 (pc' := 13) (l' := [some (.ref b), some (.int x1), some (.int x2), some (.int x3)]) (st' := [.ref b]) (fun _ => rfl) ?_
      obtain ⟨s1, hs1, hf⟩ := ob hf
      refine t_cv (as := []) (st := []) (rfl : mfetch 22 13 = some (13, .invokevirtual 88, 3, 23, 0, 0)) hb.1 rfl rfl rfl rfl (ok_H_passHour hb hs1) ?_
      refine mEnds.stp 2 (pc' := 7) (l' := [some (.ref b), some (.int x1), some (.int x2), some (.int (x3 + (nI 1)))]) (st' := []) (fun _ => rfl) ?_
      refine mEnds.cut (l := [some (.ref b), some (.int x1), some (.int x2), some (.int (x3 + (nI 1)))]) ⟨rfl, ⟨rfl, ⟨rfl, ⟨rfl, trivial⟩⟩⟩⟩ ?_
      exact ok_H_passHours_7 hb fu (x3 + (nI 1)) s1 _ hf
    · rw [if_neg hc1] at hf
      refine t_cT (t := 22) (rfl : mfetch 22 9 = some (9, .if_icmp .ge 13, 3, 0, 0, 0)) rfl (k_ge hc1) ?_
      refine mEnds.stp 1 (pc' := 23) (l' := [some (.ref b), some (.int x1), some (.int x2), some (.int x3)]) (st' := [.ref b]) (fun _ => rfl) ?_
      refine t_gi (rfl : mfetch 22 23 = some (23, .getfield 46, 3, 1, 3, 0)) hb.1 rfl ?_
      refine mEnds.stp 2 (pc' := 28) (l' := [some (.ref b), some (.int x1), some (.int x2), some (.int x3)]) (st' := [.int ((s b 3) - x2)]) (fun _ => rfl) ?_
      exact mEnds.rti (Option.some.inj hf) (fun _ => rfl)
def H_passHours (b : Nat) (x1 : Int32) (s : sg) : Option (Int32 × sg) :=
  H_passHours_7 b x1 (s b 3) FU (nI 0) s
set_option maxRecDepth 100000 in
theorem ok_H_passHours {b : Nat} {x1 : Int32} (hb : isH b) {s : sg} {rv : (Int32 × sg)} (hf : H_passHours b x1 s = some rv) : mEnds [] 4 22 (0, [some (.ref b), some (.int x1), none, none], [], hp shC s, 0, 0) (some (.int rv.1), hp shC rv.2, 0, 0) := by
  unfold H_passHours at hf
  refine mEnds.stp 1 (pc' := 1) (l' := [some (.ref b), some (.int x1), none, none]) (st' := [.ref b]) (fun _ => rfl) ?_
  refine t_gi (rfl : mfetch 22 1 = some (1, .getfield 46, 3, 1, 3, 0)) hb.1 rfl ?_
  refine mEnds.stp 3 (pc' := 7) (l' := [some (.ref b), some (.int x1), some (.int (s b 3)), some (.int (nI 0))]) (st' := []) (fun _ => rfl) ?_
  refine mEnds.cut (l := [some (.ref b), some (.int x1), some (.int (s b 3)), some (.int (nI 0))]) ⟨rfl, ⟨rfl, ⟨rfl, ⟨rfl, trivial⟩⟩⟩⟩ ?_
  exact ok_H_passHours_7 hb FU (nI 0) s _ hf
def H_staysWarm_3 (b : Nat) (x1 : Int32) (x2 : Int32) (x3 : Int32) : Nat → Int32 → sg → Option (Int32 × sg)
  | 0, _, _ => none
  | fu + 1, x4, s =>
  if x4 < x2 then
    (H_passHour b s).bind fun s1 =>
    (midx x1 6).bind fun j1 =>
    if s1 (b + 1) j1 < x3 then
      some (nI 0, s1)
    else
      H_staysWarm_3 b x1 x2 x3 fu (x4 + (nI 1)) s1
  else
    some (nI 1, s)
set_option maxRecDepth 100000 in
theorem ok_H_staysWarm_3 {b : Nat} {x1 : Int32} {x2 : Int32} {x3 : Int32} (hb : isH b) : ∀ (fu : Nat) (x4 : Int32) (s : sg) (rv : (Int32 × sg)), H_staysWarm_3 b x1 x2 x3 fu x4 s = some rv → mEnds [] 4 27 (3, [some (.ref b), some (.int x1), some (.int x2), some (.int x3), some (.int x4)], [], hp shC s, 0, 0) (some (.int rv.1), hp shC rv.2, 0, 0)
  | 0, _, _, _, hf => by cases hf
  | fu + 1, x4, s, rv, hf => by
    rw [H_staysWarm_3] at hf
    refine mEnds.stp 2 (pc' := 6) (l' := [some (.ref b), some (.int x1), some (.int x2), some (.int x3), some (.int x4)]) (st' := [.int x2, .int x4]) (fun _ => rfl) ?_
    by_cases hc1 : x4 < x2
    · rw [if_pos hc1] at hf
      refine t_cF (rfl : mfetch 27 6 = some (6, .if_icmp .ge 25, 3, 0, 0, 0)) (k_ge' hc1) ?_
      refine mEnds.stp 1 (pc' := 10) (l' := [some (.ref b), some (.int x1), some (.int x2), some (.int x3), some (.int x4)]) (st' := [.ref b]) (fun _ => rfl) ?_
      obtain ⟨s1, hs1, hf⟩ := ob hf
      refine t_cv (as := []) (st := []) (rfl : mfetch 27 10 = some (10, .invokevirtual 88, 3, 23, 0, 0)) hb.1 rfl rfl rfl rfl (ok_H_passHour hb hs1) ?_
      refine mEnds.stp 1 (pc' := 14) (l' := [some (.ref b), some (.int x1), some (.int x2), some (.int x3), some (.int x4)]) (st' := [.ref b]) (fun _ => rfl) ?_
      refine t_gr (rfl : mfetch 27 14 = some (14, .getfield 9, 3, 1, 5, 0)) hb.1 rfl ?_
      refine mEnds.stp 1 (pc' := 18) (l' := [some (.ref b), some (.int x1), some (.int x2), some (.int x3), some (.int x4)]) (st' := [.int x1, .ref (b + 1)]) (fun _ => rfl) ?_
      obtain ⟨j1, hj1, hf⟩ := ob hf
      refine t_ia (rfl : mfetch 27 18 = some (18, .iaload, 1, 0, 0, 0)) hb.2.1 (isH_le hb 1) hj1 ?_
      refine mEnds.stp 1 (pc' := 20) (l' := [some (.ref b), some (.int x1), some (.int x2), some (.int x3), some (.int x4)]) (st' := [.int x3, .int (s1 (b + 1) j1)]) (fun _ => rfl) ?_
      by_cases hc2 : s1 (b + 1) j1 < x3
      · rw [if_pos hc2] at hf
        refine t_cF (rfl : mfetch 27 20 = some (20, .if_icmp .ge 5, 3, 0, 0, 0)) (k_ge' hc2) ?_
        refine mEnds.stp 1 (pc' := 24) (l' := [some (.ref b), some (.int x1), some (.int x2), some (.int x3), some (.int x4)]) (st' := [.int (nI 0)]) (fun _ => rfl) ?_
        exact mEnds.rti (Option.some.inj hf) (fun _ => rfl)
      · rw [if_neg hc2] at hf
        refine t_cT (t := 25) (rfl : mfetch 27 20 = some (20, .if_icmp .ge 5, 3, 0, 0, 0)) rfl (k_ge hc2) ?_
        refine mEnds.stp 2 (pc' := 3) (l' := [some (.ref b), some (.int x1), some (.int x2), some (.int x3), some (.int (x4 + (nI 1)))]) (st' := []) (fun _ => rfl) ?_
        refine mEnds.cut (l := [some (.ref b), some (.int x1), some (.int x2), some (.int x3), some (.int (x4 + (nI 1)))]) ⟨rfl, ⟨rfl, ⟨rfl, ⟨rfl, ⟨rfl, trivial⟩⟩⟩⟩⟩ ?_
        exact ok_H_staysWarm_3 hb fu (x4 + (nI 1)) s1 _ hf
    · rw [if_neg hc1] at hf
      refine t_cT (t := 31) (rfl : mfetch 27 6 = some (6, .if_icmp .ge 25, 3, 0, 0, 0)) rfl (k_ge hc1) ?_
      refine mEnds.stp 1 (pc' := 32) (l' := [some (.ref b), some (.int x1), some (.int x2), some (.int x3), some (.int x4)]) (st' := [.int (nI 1)]) (fun _ => rfl) ?_
      exact mEnds.rti (Option.some.inj hf) (fun _ => rfl)
def H_staysWarm (b : Nat) (x1 : Int32) (x2 : Int32) (x3 : Int32) (s : sg) : Option (Int32 × sg) :=
  H_staysWarm_3 b x1 x2 x3 FU (nI 0) s
set_option maxRecDepth 100000 in
theorem ok_H_staysWarm {b : Nat} {x1 : Int32} {x2 : Int32} {x3 : Int32} (hb : isH b) {s : sg} {rv : (Int32 × sg)} (hf : H_staysWarm b x1 x2 x3 s = some rv) : mEnds [] 4 27 (0, [some (.ref b), some (.int x1), some (.int x2), some (.int x3), none], [], hp shC s, 0, 0) (some (.int rv.1), hp shC rv.2, 0, 0) := by
  unfold H_staysWarm at hf
  refine mEnds.stp 2 (pc' := 3) (l' := [some (.ref b), some (.int x1), some (.int x2), some (.int x3), some (.int (nI 0))]) (st' := []) (fun _ => rfl) ?_
  refine mEnds.cut (l := [some (.ref b), some (.int x1), some (.int x2), some (.int x3), some (.int (nI 0))]) ⟨rfl, ⟨rfl, ⟨rfl, ⟨rfl, ⟨rfl, trivial⟩⟩⟩⟩⟩ ?_
  exact ok_H_staysWarm_3 hb FU (nI 0) s _ hf
def H_burntAllWarm_8 (b : Nat) (x1 : Int32) (x2 : Int32) (x3 : Int32) : Nat → Int32 → sg → Option (Int32 × sg)
  | 0, _, _ => none
  | fu + 1, x4, s =>
  if x4 < x1 then
    (H_passHour b s).bind fun s1 =>
    (H_coldestNow b s1).bind fun v2 =>
    if v2 < x2 then
      some ((-4), s1)
    else
      H_burntAllWarm_8 b x1 x2 x3 fu (x4 + (nI 1)) s1
  else
    some ((s b 3) - x3, s)
set_option maxRecDepth 100000 in
theorem ok_H_burntAllWarm_8 {b : Nat} {x1 : Int32} {x2 : Int32} {x3 : Int32} (hb : isH b) : ∀ (fu : Nat) (x4 : Int32) (s : sg) (rv : (Int32 × sg)), H_burntAllWarm_8 b x1 x2 x3 fu x4 s = some rv → mEnds [] 4 28 (8, [some (.ref b), some (.int x1), some (.int x2), some (.int x3), some (.int x4)], [], hp shC s, 0, 0) (some (.int rv.1), hp shC rv.2, 0, 0)
  | 0, _, _, _, hf => by cases hf
  | fu + 1, x4, s, rv, hf => by
    rw [H_burntAllWarm_8] at hf
    refine mEnds.stp 2 (pc' := 11) (l' := [some (.ref b), some (.int x1), some (.int x2), some (.int x3), some (.int x4)]) (st' := [.int x1, .int x4]) (fun _ => rfl) ?_
    by_cases hc1 : x4 < x1
    · rw [if_pos hc1] at hf
      refine t_cF (rfl : mfetch 28 11 = some (11, .if_icmp .ge 24, 3, 0, 0, 0)) (k_ge' hc1) ?_
      refine mEnds.stp 1 (pc' := 15) (l' := [some (.ref b), some (.int x1), some (.int x2), some (.int x3), some (.int x4)]) (st' := [.ref b]) (fun _ => rfl) ?_
      obtain ⟨s1, hs1, hf⟩ := ob hf
      refine t_cv (as := []) (st := []) (rfl : mfetch 28 15 = some (15, .invokevirtual 88, 3, 23, 0, 0)) hb.1 rfl rfl rfl rfl (ok_H_passHour hb hs1) ?_
      refine mEnds.stp 1 (pc' := 19) (l' := [some (.ref b), some (.int x1), some (.int x2), some (.int x3), some (.int x4)]) (st' := [.ref b]) (fun _ => rfl) ?_
      obtain ⟨v2, hv2, hf⟩ := ob hf
      refine t_cv (as := []) (st := []) (rfl : mfetch 28 19 = some (19, .invokevirtual 129, 3, 16, 0, 0)) hb.1 rfl rfl rfl rfl ((ok_H_coldestNow hb hv2).deep 3) ?_
      refine mEnds.stp 1 (pc' := 23) (l' := [some (.ref b), some (.int x1), some (.int x2), some (.int x3), some (.int x4)]) (st' := [.int x2, .int v2]) (fun _ => rfl) ?_
      by_cases hc2 : v2 < x2
      · rw [if_pos hc2] at hf
        refine t_cF (rfl : mfetch 28 23 = some (23, .if_icmp .ge 6, 3, 0, 0, 0)) (k_ge' hc2) ?_
        refine mEnds.stp 1 (pc' := 28) (l' := [some (.ref b), some (.int x1), some (.int x2), some (.int x3), some (.int x4)]) (st' := [.int (-4)]) (fun _ => rfl) ?_
        exact mEnds.rti (Option.some.inj hf) (fun _ => rfl)
      · rw [if_neg hc2] at hf
        refine t_cT (t := 29) (rfl : mfetch 28 23 = some (23, .if_icmp .ge 6, 3, 0, 0, 0)) rfl (k_ge hc2) ?_
        refine mEnds.stp 2 (pc' := 8) (l' := [some (.ref b), some (.int x1), some (.int x2), some (.int x3), some (.int (x4 + (nI 1)))]) (st' := []) (fun _ => rfl) ?_
        refine mEnds.cut (l := [some (.ref b), some (.int x1), some (.int x2), some (.int x3), some (.int (x4 + (nI 1)))]) ⟨rfl, ⟨rfl, ⟨rfl, ⟨rfl, ⟨rfl, trivial⟩⟩⟩⟩⟩ ?_
        exact ok_H_burntAllWarm_8 hb fu (x4 + (nI 1)) s1 _ hf
    · rw [if_neg hc1] at hf
      refine t_cT (t := 35) (rfl : mfetch 28 11 = some (11, .if_icmp .ge 24, 3, 0, 0, 0)) rfl (k_ge hc1) ?_
      refine mEnds.stp 1 (pc' := 36) (l' := [some (.ref b), some (.int x1), some (.int x2), some (.int x3), some (.int x4)]) (st' := [.ref b]) (fun _ => rfl) ?_
      refine t_gi (rfl : mfetch 28 36 = some (36, .getfield 46, 3, 1, 3, 0)) hb.1 rfl ?_
      refine mEnds.stp 2 (pc' := 41) (l' := [some (.ref b), some (.int x1), some (.int x2), some (.int x3), some (.int x4)]) (st' := [.int ((s b 3) - x3)]) (fun _ => rfl) ?_
      exact mEnds.rti (Option.some.inj hf) (fun _ => rfl)
def H_burntAllWarm (b : Nat) (x1 : Int32) (x2 : Int32) (s : sg) : Option (Int32 × sg) :=
  H_burntAllWarm_8 b x1 x2 (s b 3) FU (nI 0) s
set_option maxRecDepth 100000 in
theorem ok_H_burntAllWarm {b : Nat} {x1 : Int32} {x2 : Int32} (hb : isH b) {s : sg} {rv : (Int32 × sg)} (hf : H_burntAllWarm b x1 x2 s = some rv) : mEnds [] 4 28 (0, [some (.ref b), some (.int x1), some (.int x2), none, none], [], hp shC s, 0, 0) (some (.int rv.1), hp shC rv.2, 0, 0) := by
  unfold H_burntAllWarm at hf
  refine mEnds.stp 1 (pc' := 1) (l' := [some (.ref b), some (.int x1), some (.int x2), none, none]) (st' := [.ref b]) (fun _ => rfl) ?_
  refine t_gi (rfl : mfetch 28 1 = some (1, .getfield 46, 3, 1, 3, 0)) hb.1 rfl ?_
  refine mEnds.stp 3 (pc' := 8) (l' := [some (.ref b), some (.int x1), some (.int x2), some (.int (s b 3)), some (.int (nI 0))]) (st' := []) (fun _ => rfl) ?_
  refine mEnds.cut (l := [some (.ref b), some (.int x1), some (.int x2), some (.int (s b 3)), some (.int (nI 0))]) ⟨rfl, ⟨rfl, ⟨rfl, ⟨rfl, ⟨rfl, trivial⟩⟩⟩⟩⟩ ?_
  exact ok_H_burntAllWarm_8 hb FU (nI 0) s _ hf
def S_isThere (b : Nat) (s : sg) : Option Int32 :=
  if s b 0 = (-1) then
    some (nI 0)
  else
    some (nI 1)
set_option maxRecDepth 100000 in
theorem ok_S_isThere {b : Nat} (hb : isS b) {s : sg} {rv : Int32} (hf : S_isThere b s = some rv) : mEnds [] 0 30 (0, [some (.ref b)], [], hp shC s, 0, 0) (some (.int rv), hp shC s, 0, 0) := by
  unfold S_isThere at hf
  refine mEnds.stp 1 (pc' := 1) (l' := [some (.ref b)]) (st' := [.ref b]) (fun _ => rfl) ?_
  refine t_gi (rfl : mfetch 30 1 = some (1, .getfield 11, 3, 2, 0, 0)) hb.1 rfl ?_
  refine mEnds.stp 1 (pc' := 5) (l' := [some (.ref b)]) (st' := [.int (-1), .int (s b 0)]) (fun _ => rfl) ?_
  by_cases hc1 : s b 0 = (-1)
  · rw [if_pos hc1] at hf
    refine t_cT (t := 12) (rfl : mfetch 30 5 = some (5, .if_icmp .eq 7, 3, 0, 0, 0)) rfl (k_eq hc1) ?_
    refine mEnds.stp 1 (pc' := 13) (l' := [some (.ref b)]) (st' := [.int (nI 0)]) (fun _ => rfl) ?_
    cases hf; exact mEnds.rt (fun _ => rfl)
  · rw [if_neg hc1] at hf
    refine t_cF (rfl : mfetch 30 5 = some (5, .if_icmp .eq 7, 3, 0, 0, 0)) (k_eq' hc1) ?_
    refine mEnds.stp 2 (pc' := 13) (l' := [some (.ref b)]) (st' := [.int (nI 1)]) (fun _ => rfl) ?_
    cases hf; exact mEnds.rt (fun _ => rfl)
def S_renew_12 (b : Nat) (x2 : Int32) : Nat → Int32 → sg → Option sg
  | 0, _, _ => none
  | fu + 1, x3, s =>
  if x3 < x2 then
    if x3 < nI 40 then
      (midx x3 40).bind fun j1 =>
      (some (up s (b + 1) j1 (nI 0))).bind fun s1 =>
      S_renew_12 b x2 fu (x3 + (nI 1)) s1
    else
      some s
  else
    some s
set_option maxRecDepth 100000 in
theorem ok_S_renew_12 {b : Nat} {x2 : Int32} (hb : isS b) : ∀ (fu : Nat) (x3 : Int32) (s : sg) (rv : sg), S_renew_12 b x2 fu x3 s = some rv → mEnds [] 0 31 (12, [some (.ref b), none, some (.int x2), some (.int x3)], [], hp shC s, 0, 0) (none, hp shC rv, 0, 0)
  | 0, _, _, _, hf => by cases hf
  | fu + 1, x3, s, rv, hf => by
    rw [S_renew_12] at hf
    refine mEnds.stp 2 (pc' := 14) (l' := [some (.ref b), none, some (.int x2), some (.int x3)]) (st' := [.int x2, .int x3]) (fun _ => rfl) ?_
    by_cases hc1 : x3 < x2
    · rw [if_pos hc1] at hf
      refine t_cF (rfl : mfetch 31 14 = some (14, .if_icmp .ge 22, 3, 0, 0, 0)) (k_ge' hc1) ?_
      refine mEnds.stp 2 (pc' := 20) (l' := [some (.ref b), none, some (.int x2), some (.int x3)]) (st' := [.int (nI 40), .int x3]) (fun _ => rfl) ?_
      by_cases hc2 : x3 < nI 40
      · rw [if_pos hc2] at hf
        refine t_cF (rfl : mfetch 31 20 = some (20, .if_icmp .ge 16, 3, 0, 0, 0)) (k_ge' hc2) ?_
        refine mEnds.stp 1 (pc' := 24) (l' := [some (.ref b), none, some (.int x2), some (.int x3)]) (st' := [.ref b]) (fun _ => rfl) ?_
        refine t_gr (rfl : mfetch 31 24 = some (24, .getfield 15, 3, 2, 2, 0)) hb.1 rfl ?_
        refine mEnds.stp 2 (pc' := 29) (l' := [some (.ref b), none, some (.int x2), some (.int x3)]) (st' := [.int (nI 0), .int x3, .ref (b + 1)]) (fun _ => rfl) ?_
        obtain ⟨j1, hj1, hf⟩ := ob hf
        obtain ⟨s1, hs1, hf⟩ := ob hf
        refine t_is (rfl : mfetch 31 29 = some (29, .iastore, 1, 0, 0, 0)) hb.2 (isS_le hb 1) hj1 hs1 ?_
        refine mEnds.stp 2 (pc' := 12) (l' := [some (.ref b), none, some (.int x2), some (.int (x3 + (nI 1)))]) (st' := []) (fun _ => rfl) ?_
        refine mEnds.cut (l := [some (.ref b), none, some (.int x2), some (.int (x3 + (nI 1)))]) ⟨rfl, ⟨rfl, ⟨rfl, trivial⟩⟩⟩ ?_
        exact ok_S_renew_12 hb fu (x3 + (nI 1)) s1 _ hf
      · rw [if_neg hc2] at hf
        refine t_cT (t := 36) (rfl : mfetch 31 20 = some (20, .if_icmp .ge 16, 3, 0, 0, 0)) rfl (k_ge hc2) ?_
        cases hf; exact mEnds.rt (fun _ => rfl)
    · rw [if_neg hc1] at hf
      refine t_cT (t := 36) (rfl : mfetch 31 14 = some (14, .if_icmp .ge 22, 3, 0, 0, 0)) rfl (k_ge hc1) ?_
      cases hf; exact mEnds.rt (fun _ => rfl)
def S_renew (b : Nat) (x1 : Int32) (x2 : Int32) (s : sg) : Option sg :=
  (some (up s b 0 x1)).bind fun s1 =>
  (some (up s1 b 1 x2)).bind fun s2 =>
  S_renew_12 b x2 FU (nI 0) s2
set_option maxRecDepth 100000 in
theorem ok_S_renew {b : Nat} {x1 : Int32} {x2 : Int32} (hb : isS b) {s : sg} {rv : sg} (hf : S_renew b x1 x2 s = some rv) : mEnds [] 0 31 (0, [some (.ref b), some (.int x1), some (.int x2), none], [], hp shC s, 0, 0) (none, hp shC rv, 0, 0) := by
  unfold S_renew at hf
  refine mEnds.stp 2 (pc' := 2) (l' := [some (.ref b), some (.int x1), some (.int x2), none]) (st' := [.int x1, .ref b]) (fun _ => rfl) ?_
  obtain ⟨s1, hs1, hf⟩ := ob hf
  refine t_pi (rfl : mfetch 31 2 = some (2, .putfield 11, 3, 2, 0, 0)) hb.1 rfl (isS_le hb 0) rfl hs1 ?_
  refine mEnds.stp 2 (pc' := 7) (l' := [some (.ref b), some (.int x1), some (.int x2), none]) (st' := [.int x2, .ref b]) (fun _ => rfl) ?_
  obtain ⟨s2, hs2, hf⟩ := ob hf
  refine t_pi (rfl : mfetch 31 7 = some (7, .putfield 19, 3, 2, 1, 0)) hb.1 rfl (isS_le hb 0) rfl hs2 ?_
  refine mEnds.stp 2 (pc' := 12) (l' := [some (.ref b), some (.int x1), some (.int x2), some (.int (nI 0))]) (st' := []) (fun _ => rfl) ?_
  refine mEnds.cut (l := [some (.ref b), none, some (.int x2), some (.int (nI 0))]) ⟨rfl, ⟨rfl, ⟨rfl, trivial⟩⟩⟩ ?_
  exact ok_S_renew_12 hb FU (nI 0) s2 _ hf
def S_put_31 (b : Nat) (y0 : Int32) (y1 : Int32) (s : sg) : Option sg :=
  (midx y1 40).bind fun j1 =>
  (some (up s (b + 1) j1 y0)).bind fun s1 =>
  some s1
set_option maxRecDepth 100000 in
theorem ok_S_put_31 {b : Nat} {y0 : Int32} {y1 : Int32} (hb : isS b) {s : sg} {rv : sg} (hf : S_put_31 b y0 y1 s = some rv) : mEnds [] 0 32 (31, [none, none, none], [.int y0, .int y1, .ref (b + 1)], hp shC s, 0, 0) (none, hp shC rv, 0, 0) := by
  unfold S_put_31 at hf
  obtain ⟨j1, hj1, hf⟩ := ob hf
  obtain ⟨s1, hs1, hf⟩ := ob hf
  refine t_is (rfl : mfetch 32 31 = some (31, .iastore, 1, 0, 0, 0)) hb.2 (isS_le hb 1) hj1 hs1 ?_
  cases hf; exact mEnds.rt (fun _ => rfl)
def S_put (b : Nat) (x1 : Int32) (x2 : Int32) (s : sg) : Option sg :=
  if s b 0 = 0 then
    S_put_31 b x2.toInt8.toInt32 x1 s
  else
    if s b 0 = nI 1 then
      S_put_31 b x2.toInt16.toInt32 x1 s
    else
      S_put_31 b x2 x1 s
set_option maxRecDepth 100000 in
theorem ok_S_put {b : Nat} {x1 : Int32} {x2 : Int32} (hb : isS b) {s : sg} {rv : sg} (hf : S_put b x1 x2 s = some rv) : mEnds [] 0 32 (0, [some (.ref b), some (.int x1), some (.int x2)], [], hp shC s, 0, 0) (none, hp shC rv, 0, 0) := by
  unfold S_put at hf
  refine mEnds.stp 1 (pc' := 1) (l' := [some (.ref b), some (.int x1), some (.int x2)]) (st' := [.ref b]) (fun _ => rfl) ?_
  refine t_gr (rfl : mfetch 32 1 = some (1, .getfield 15, 3, 2, 2, 0)) hb.1 rfl ?_
  refine mEnds.stp 2 (pc' := 6) (l' := [some (.ref b), some (.int x1), some (.int x2)]) (st' := [.ref b, .int x1, .ref (b + 1)]) (fun _ => rfl) ?_
  refine t_gi (rfl : mfetch 32 6 = some (6, .getfield 11, 3, 2, 0, 0)) hb.1 rfl ?_
  by_cases hc1 : s b 0 = 0
  · rw [if_pos hc1] at hf
    refine t_jF (rfl : mfetch 32 9 = some (9, .ifCond .ne 8, 3, 0, 0, 0)) (k_ne' hc1) ?_
    refine mEnds.stp 3 (pc' := 31) (l' := [some (.ref b), some (.int x1), some (.int x2)]) (st' := [.int x2.toInt8.toInt32, .int x1, .ref (b + 1)]) (fun _ => rfl) ?_
    refine mEnds.cut (l := [none, none, none]) trivial ?_
    exact ok_S_put_31 hb hf
  · rw [if_neg hc1] at hf
    refine t_jT (t := 17) (rfl : mfetch 32 9 = some (9, .ifCond .ne 8, 3, 0, 0, 0)) rfl (k_ne hc1) ?_
    refine mEnds.stp 1 (pc' := 18) (l' := [some (.ref b), some (.int x1), some (.int x2)]) (st' := [.ref b, .int x1, .ref (b + 1)]) (fun _ => rfl) ?_
    refine t_gi (rfl : mfetch 32 18 = some (18, .getfield 11, 3, 2, 0, 0)) hb.1 rfl ?_
    refine mEnds.stp 1 (pc' := 22) (l' := [some (.ref b), some (.int x1), some (.int x2)]) (st' := [.int (nI 1), .int (s b 0), .int x1, .ref (b + 1)]) (fun _ => rfl) ?_
    by_cases hc2 : s b 0 = nI 1
    · rw [if_pos hc2] at hf
      refine t_cF (rfl : mfetch 32 22 = some (22, .if_icmp .ne 8, 3, 0, 0, 0)) (k_ne' hc2) ?_
      refine mEnds.stp 3 (pc' := 31) (l' := [some (.ref b), some (.int x1), some (.int x2)]) (st' := [.int x2.toInt16.toInt32, .int x1, .ref (b + 1)]) (fun _ => rfl) ?_
      refine mEnds.cut (l := [none, none, none]) trivial ?_
      exact ok_S_put_31 hb hf
    · rw [if_neg hc2] at hf
      refine t_cT (t := 30) (rfl : mfetch 32 22 = some (22, .if_icmp .ne 8, 3, 0, 0, 0)) rfl (k_ne hc2) ?_
      refine mEnds.stp 1 (pc' := 31) (l' := [some (.ref b), some (.int x1), some (.int x2)]) (st' := [.int x2, .int x1, .ref (b + 1)]) (fun _ => rfl) ?_
      refine mEnds.cut (l := [none, none, none]) trivial ?_
      exact ok_S_put_31 hb hf
def S_faultAt (b : Nat) (x1 : Int32) (x2 : Int32) (s : sg) : Option Int32 :=
  (S_isThere b s).bind fun v1 =>
  if v1 = 0 then
    some (nI 1)
  else
    if x1 = s b 0 then
      if x2 < 0 then
        some (nI 2)
      else
        if x2 < s b 1 then
          some (nI 0)
        else
          some (nI 2)
    else
      some (nI 3)
set_option maxRecDepth 100000 in
theorem ok_S_faultAt {b : Nat} {x1 : Int32} {x2 : Int32} (hb : isS b) {s : sg} {rv : Int32} (hf : S_faultAt b x1 x2 s = some rv) : mEnds [] 1 33 (0, [some (.ref b), some (.int x1), some (.int x2)], [], hp shC s, 0, 0) (some (.int rv), hp shC s, 0, 0) := by
  unfold S_faultAt at hf
  refine mEnds.stp 1 (pc' := 1) (l' := [some (.ref b), some (.int x1), some (.int x2)]) (st' := [.ref b]) (fun _ => rfl) ?_
  obtain ⟨v1, hv1, hf⟩ := ob hf
  refine t_cv (as := []) (st := []) (rfl : mfetch 33 1 = some (1, .invokevirtual 22, 3, 30, 0, 0)) hb.1 rfl rfl rfl rfl (ok_S_isThere hb hv1) ?_
  by_cases hc1 : v1 = 0
  · rw [if_pos hc1] at hf
    refine t_jF (rfl : mfetch 33 4 = some (4, .ifCond .ne 5, 3, 0, 0, 0)) (k_ne' hc1) ?_
    refine mEnds.stp 1 (pc' := 8) (l' := [some (.ref b), some (.int x1), some (.int x2)]) (st' := [.int (nI 1)]) (fun _ => rfl) ?_
    cases hf; exact mEnds.rt (fun _ => rfl)
  · rw [if_neg hc1] at hf
    refine t_jT (t := 9) (rfl : mfetch 33 4 = some (4, .ifCond .ne 5, 3, 0, 0, 0)) rfl (k_ne hc1) ?_
    refine mEnds.stp 2 (pc' := 11) (l' := [some (.ref b), some (.int x1), some (.int x2)]) (st' := [.ref b, .int x1]) (fun _ => rfl) ?_
    refine t_gi (rfl : mfetch 33 11 = some (11, .getfield 11, 3, 2, 0, 0)) hb.1 rfl ?_
    by_cases hc2 : x1 = s b 0
    · rw [if_pos hc2] at hf
      refine t_cT (t := 19) (rfl : mfetch 33 14 = some (14, .if_icmp .eq 5, 3, 0, 0, 0)) rfl (k_eq hc2) ?_
      refine mEnds.stp 1 (pc' := 20) (l' := [some (.ref b), some (.int x1), some (.int x2)]) (st' := [.int x2]) (fun _ => rfl) ?_
      by_cases hc3 : x2 < 0
      · rw [if_pos hc3] at hf
        refine t_jT (t := 35) (rfl : mfetch 33 20 = some (20, .ifCond .lt 15, 3, 0, 0, 0)) rfl (k_lt hc3) ?_
        refine mEnds.stp 1 (pc' := 36) (l' := [some (.ref b), some (.int x1), some (.int x2)]) (st' := [.int (nI 2)]) (fun _ => rfl) ?_
        cases hf; exact mEnds.rt (fun _ => rfl)
      · rw [if_neg hc3] at hf
        refine t_jF (rfl : mfetch 33 20 = some (20, .ifCond .lt 15, 3, 0, 0, 0)) (k_lt' hc3) ?_
        refine mEnds.stp 2 (pc' := 25) (l' := [some (.ref b), some (.int x1), some (.int x2)]) (st' := [.ref b, .int x2]) (fun _ => rfl) ?_
        refine t_gi (rfl : mfetch 33 25 = some (25, .getfield 19, 3, 2, 1, 0)) hb.1 rfl ?_
        by_cases hc4 : x2 < s b 1
        · rw [if_pos hc4] at hf
          refine t_cF (rfl : mfetch 33 28 = some (28, .if_icmp .ge 7, 3, 0, 0, 0)) (k_ge' hc4) ?_
          refine mEnds.stp 2 (pc' := 36) (l' := [some (.ref b), some (.int x1), some (.int x2)]) (st' := [.int (nI 0)]) (fun _ => rfl) ?_
          cases hf; exact mEnds.rt (fun _ => rfl)
        · rw [if_neg hc4] at hf
          refine t_cT (t := 35) (rfl : mfetch 33 28 = some (28, .if_icmp .ge 7, 3, 0, 0, 0)) rfl (k_ge hc4) ?_
          refine mEnds.stp 1 (pc' := 36) (l' := [some (.ref b), some (.int x1), some (.int x2)]) (st' := [.int (nI 2)]) (fun _ => rfl) ?_
          cases hf; exact mEnds.rt (fun _ => rfl)
    · rw [if_neg hc2] at hf
      refine t_cF (rfl : mfetch 33 14 = some (14, .if_icmp .eq 5, 3, 0, 0, 0)) (k_eq' hc2) ?_
      refine mEnds.stp 1 (pc' := 18) (l' := [some (.ref b), some (.int x1), some (.int x2)]) (st' := [.int (nI 3)]) (fun _ => rfl) ?_
      cases hf; exact mEnds.rt (fun _ => rfl)
def S_faultAtPair (b : Nat) (x1 : Int32) (x2 : Int32) (s : sg) : Option Int32 :=
  (S_faultAt b x1 x2 s).bind fun v1 =>
  if v1 = 0 then
    (S_faultAt b x1 (x2 + (nI 1)) s).bind fun v2 =>
    some v2
  else
    some v1
set_option maxRecDepth 100000 in
theorem ok_S_faultAtPair {b : Nat} {x1 : Int32} {x2 : Int32} (hb : isS b) {s : sg} {rv : Int32} (hf : S_faultAtPair b x1 x2 s = some rv) : mEnds [] 2 34 (0, [some (.ref b), some (.int x1), some (.int x2), none], [], hp shC s, 0, 0) (some (.int rv), hp shC s, 0, 0) := by
  unfold S_faultAtPair at hf
  refine mEnds.stp 3 (pc' := 3) (l' := [some (.ref b), some (.int x1), some (.int x2), none]) (st' := [.int x2, .int x1, .ref b]) (fun _ => rfl) ?_
  obtain ⟨v1, hv1, hf⟩ := ob hf
  refine t_cv (as := [.int x1, .int x2]) (st := []) (rfl : mfetch 34 3 = some (3, .invokevirtual 26, 3, 33, 0, 0)) hb.1 rfl rfl rfl rfl (ok_S_faultAt hb hv1) ?_
  refine mEnds.stp 2 (pc' := 8) (l' := [some (.ref b), some (.int x1), some (.int x2), some (.int v1)]) (st' := [.int v1]) (fun _ => rfl) ?_
  by_cases hc1 : v1 = 0
  · rw [if_pos hc1] at hf
    refine t_jT (t := 15) (rfl : mfetch 34 8 = some (8, .ifCond .eq 7, 3, 0, 0, 0)) rfl (k_eq hc1) ?_
    refine mEnds.stp 5 (pc' := 20) (l' := [some (.ref b), some (.int x1), some (.int x2), some (.int v1)]) (st' := [.int (x2 + (nI 1)), .int x1, .ref b]) (fun _ => rfl) ?_
    obtain ⟨v2, hv2, hf⟩ := ob hf
    refine t_cv (as := [.int x1, .int (x2 + (nI 1))]) (st := []) (rfl : mfetch 34 20 = some (20, .invokevirtual 26, 3, 33, 0, 0)) hb.1 rfl rfl rfl rfl (ok_S_faultAt hb hv2) ?_
    cases hf; exact mEnds.rt (fun _ => rfl)
  · rw [if_neg hc1] at hf
    refine t_jF (rfl : mfetch 34 8 = some (8, .ifCond .eq 7, 3, 0, 0, 0)) (k_eq' hc1) ?_
    refine mEnds.stp 2 (pc' := 23) (l' := [some (.ref b), some (.int x1), some (.int x2), some (.int v1)]) (st' := [.int v1]) (fun _ => rfl) ?_
    cases hf; exact mEnds.rt (fun _ => rfl)
def T_put (x1 : Int32) (s : sg) : Option (Int32 × sg) :=
  if s 27 1 < nI 160 then
    (midx (s 27 1) 160).bind fun j1 =>
    (some (up s 28 j1 (vp_nar .byte x1.toInt8.toInt32))).bind fun s1 =>
    (some (up s1 27 1 ((s1 27 1) + (nI 1)))).bind fun s2 =>
    some (nI 1, s2)
  else
    some (nI 0, s)
set_option maxRecDepth 100000 in
theorem ok_T_put {x1 : Int32} {s : sg} {rv : (Int32 × sg)} (hf : T_put x1 s = some rv) : mEnds [] 0 36 (0, [some (.ref 27), some (.int x1)], [], hp shC s, 0, 0) (some (.int rv.1), hp shC rv.2, 0, 0) := by
  unfold T_put at hf
  refine mEnds.stp 1 (pc' := 1) (l' := [some (.ref 27), some (.int x1)]) (st' := [.ref 27]) (fun _ => rfl) ?_
  refine t_gi (rfl : mfetch 36 1 = some (1, .getfield 22, 3, 3, 1, 0)) rfl rfl ?_
  refine mEnds.stp 1 (pc' := 7) (l' := [some (.ref 27), some (.int x1)]) (st' := [.int (nI 160), .int (s 27 1)]) (fun _ => rfl) ?_
  by_cases hc1 : s 27 1 < nI 160
  · rw [if_pos hc1] at hf
    refine t_cT (t := 12) (rfl : mfetch 36 7 = some (7, .if_icmp .lt 5, 3, 0, 0, 0)) rfl (k_lt hc1) ?_
    refine mEnds.stp 1 (pc' := 13) (l' := [some (.ref 27), some (.int x1)]) (st' := [.ref 27]) (fun _ => rfl) ?_
    refine t_gr (rfl : mfetch 36 13 = some (13, .getfield 11, 3, 3, 0, 0)) rfl rfl ?_
    refine mEnds.stp 1 (pc' := 17) (l' := [some (.ref 27), some (.int x1)]) (st' := [.ref 27, .ref 28]) (fun _ => rfl) ?_
    refine t_gi (rfl : mfetch 36 17 = some (17, .getfield 22, 3, 3, 1, 0)) rfl rfl ?_
    refine mEnds.stp 2 (pc' := 22) (l' := [some (.ref 27), some (.int x1)]) (st' := [.int x1.toInt8.toInt32, .int (s 27 1), .ref 28]) (fun _ => rfl) ?_
    obtain ⟨j1, hj1, hf⟩ := ob hf
    obtain ⟨s1, hs1, hf⟩ := ob hf
    refine t_bs (rfl : mfetch 36 22 = some (22, .bastore, 1, 0, 0, 0)) rfl rfl hj1 hs1 ?_
    refine mEnds.stp 2 (pc' := 25) (l' := [some (.ref 27), some (.int x1)]) (st' := [.ref 27, .ref 27]) (fun _ => rfl) ?_
    refine t_gi (rfl : mfetch 36 25 = some (25, .getfield 22, 3, 3, 1, 0)) rfl rfl ?_
    refine mEnds.stp 2 (pc' := 30) (l' := [some (.ref 27), some (.int x1)]) (st' := [.int ((s1 27 1) + (nI 1)), .ref 27]) (fun _ => rfl) ?_
    obtain ⟨s2, hs2, hf⟩ := ob hf
    refine t_pi (rfl : mfetch 36 30 = some (30, .putfield 22, 3, 3, 1, 0)) rfl rfl rfl rfl hs2 ?_
    refine mEnds.stp 1 (pc' := 34) (l' := [some (.ref 27), some (.int x1)]) (st' := [.int (nI 1)]) (fun _ => rfl) ?_
    exact mEnds.rti (Option.some.inj hf) (fun _ => rfl)
  · rw [if_neg hc1] at hf
    refine t_cF (rfl : mfetch 36 7 = some (7, .if_icmp .lt 5, 3, 0, 0, 0)) (k_lt' hc1) ?_
    refine mEnds.stp 1 (pc' := 11) (l' := [some (.ref 27), some (.int x1)]) (st' := [.int (nI 0)]) (fun _ => rfl) ?_
    exact mEnds.rti (Option.some.inj hf) (fun _ => rfl)
