def H_hasRoom (b : Nat) (x1 : Int32) (s : sg) : Option Int32 :=
  if x1 < 0 then
    some (nI 0)
  else
    if x1 < s b 0 then
      some (nI 1)
    else
      some (nI 0)

set_option maxRecDepth 100000 in
theorem ok_H_hasRoom {b : Nat} {x1 : Int32} (hb : isH b) {s : sg} {rv : Int32} (hf : H_hasRoom b x1 s = some rv) : mEnds [] 0 8 (0, [some (.ref b), some (.int x1)], [], hp shC s, 0, 0) (some (.int rv), hp shC s, 0, 0) := by
  unfold H_hasRoom at hf
  refine mEnds.stp 1 (pc' := 1) (l' := [some (.ref b), some (.int x1)]) (st' := [.int x1]) (fun _ => rfl) ?_
  by_cases hc1 : x1 < 0
  · rw [if_pos hc1] at hf
    refine t_jT (t := 16) (rfl : mfetch 8 1 = some (1, .ifCond .lt 15, 3, 0, 0, 0)) rfl (k_lt hc1) ?_
    refine mEnds.stp 1 (pc' := 17) (l' := [some (.ref b), some (.int x1)]) (st' := [.int (nI 0)]) (fun _ => rfl) ?_
    cases hf; exact mEnds.rt (fun _ => rfl)
  · rw [if_neg hc1] at hf
    refine t_jF (rfl : mfetch 8 1 = some (1, .ifCond .lt 15, 3, 0, 0, 0)) (k_lt' hc1) ?_
    refine mEnds.stp 2 (pc' := 6) (l' := [some (.ref b), some (.int x1)]) (st' := [.ref b, .int x1]) (fun _ => rfl) ?_
    refine t_gi (rfl : mfetch 8 6 = some (6, .getfield 36, 3, 1, 0, 0)) hb.1 rfl ?_
    by_cases hc2 : x1 < s b 0
    · rw [if_pos hc2] at hf
      refine t_cF (rfl : mfetch 8 9 = some (9, .if_icmp .ge 7, 3, 0, 0, 0)) (k_ge' hc2) ?_
      refine mEnds.stp 2 (pc' := 17) (l' := [some (.ref b), some (.int x1)]) (st' := [.int (nI 1)]) (fun _ => rfl) ?_
      cases hf; exact mEnds.rt (fun _ => rfl)
    · rw [if_neg hc2] at hf
      refine t_cT (t := 16) (rfl : mfetch 8 9 = some (9, .if_icmp .ge 7, 3, 0, 0, 0)) rfl (k_ge hc2) ?_
      refine mEnds.stp 1 (pc' := 17) (l' := [some (.ref b), some (.int x1)]) (st' := [.int (nI 0)]) (fun _ => rfl) ?_
      cases hf; exact mEnds.rt (fun _ => rfl)

def H_hasTongue (b : Nat) (x1 : Int32) (s : sg) : Option Int32 :=
  (midx x1 6).bind fun j1 =>
  if s (b + 4) j1 = (-1) then
    some (nI 0)
  else
    some (nI 1)

set_option maxRecDepth 100000 in
theorem ok_H_hasTongue {b : Nat} {x1 : Int32} (hb : isH b) {s : sg} {rv : Int32} (hf : H_hasTongue b x1 s = some rv) : mEnds [] 0 10 (0, [some (.ref b), some (.int x1)], [], hp shC s, 0, 0) (some (.int rv), hp shC s, 0, 0) := by
  unfold H_hasTongue at hf
  refine mEnds.stp 1 (pc' := 1) (l' := [some (.ref b), some (.int x1)]) (st' := [.ref b]) (fun _ => rfl) ?_
  refine t_gr (rfl : mfetch 10 1 = some (1, .getfield 21, 3, 1, 8, 0)) hb.1 rfl ?_
  refine mEnds.stp 1 (pc' := 5) (l' := [some (.ref b), some (.int x1)]) (st' := [.int x1, .ref (b + 4)]) (fun _ => rfl) ?_
  obtain ⟨j1, hj1, hf⟩ := ob hf
  refine t_ia (rfl : mfetch 10 5 = some (5, .iaload, 1, 0, 0, 0)) hb.2.2.2.2.1 (isH_le hb 4) hj1 ?_
  refine mEnds.stp 1 (pc' := 7) (l' := [some (.ref b), some (.int x1)]) (st' := [.int (-1), .int (s (b + 4) j1)]) (fun _ => rfl) ?_
  by_cases hc1 : s (b + 4) j1 = (-1)
  · rw [if_pos hc1] at hf
    refine t_cT (t := 14) (rfl : mfetch 10 7 = some (7, .if_icmp .eq 7, 3, 0, 0, 0)) rfl (k_eq hc1) ?_
    refine mEnds.stp 1 (pc' := 15) (l' := [some (.ref b), some (.int x1)]) (st' := [.int (nI 0)]) (fun _ => rfl) ?_
    cases hf; exact mEnds.rt (fun _ => rfl)
  · rw [if_neg hc1] at hf
    refine t_cF (rfl : mfetch 10 7 = some (7, .if_icmp .eq 7, 3, 0, 0, 0)) (k_eq' hc1) ?_
    refine mEnds.stp 2 (pc' := 15) (l' := [some (.ref b), some (.int x1)]) (st' := [.int (nI 1)]) (fun _ => rfl) ?_
    cases hf; exact mEnds.rt (fun _ => rfl)

def H_isOn (b : Nat) (x1 : Int32) (s : sg) : Option Int32 :=
  if ((s b 1) >>> (x1 &&& 31)) &&& (nI 1) = nI 1 then
    some (nI 1)
  else
    some (nI 0)

set_option maxRecDepth 100000 in
theorem ok_H_isOn {b : Nat} {x1 : Int32} (hb : isH b) {s : sg} {rv : Int32} (hf : H_isOn b x1 s = some rv) : mEnds [] 0 11 (0, [some (.ref b), some (.int x1)], [], hp shC s, 0, 0) (some (.int rv), hp shC s, 0, 0) := by
  unfold H_isOn at hf
  refine mEnds.stp 1 (pc' := 1) (l' := [some (.ref b), some (.int x1)]) (st' := [.ref b]) (fun _ => rfl) ?_
  refine t_gi (rfl : mfetch 11 1 = some (1, .getfield 40, 3, 1, 1, 0)) hb.1 rfl ?_
  refine mEnds.stp 5 (pc' := 9) (l' := [some (.ref b), some (.int x1)]) (st' := [.int (nI 1), .int (((s b 1) >>> (x1 &&& 31)) &&& (nI 1))]) (fun _ => rfl) ?_
  by_cases hc1 : ((s b 1) >>> (x1 &&& 31)) &&& (nI 1) = nI 1
  · rw [if_pos hc1] at hf
    refine t_cF (rfl : mfetch 11 9 = some (9, .if_icmp .ne 7, 3, 0, 0, 0)) (k_ne' hc1) ?_
    refine mEnds.stp 2 (pc' := 17) (l' := [some (.ref b), some (.int x1)]) (st' := [.int (nI 1)]) (fun _ => rfl) ?_
    cases hf; exact mEnds.rt (fun _ => rfl)
  · rw [if_neg hc1] at hf
    refine t_cT (t := 16) (rfl : mfetch 11 9 = some (9, .if_icmp .ne 7, 3, 0, 0, 0)) rfl (k_ne hc1) ?_
    refine mEnds.stp 1 (pc' := 17) (l' := [some (.ref b), some (.int x1)]) (st' := [.int (nI 0)]) (fun _ => rfl) ?_
    cases hf; exact mEnds.rt (fun _ => rfl)

