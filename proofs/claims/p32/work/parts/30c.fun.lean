def T_fail (x1 : Int32) (x2 : Int32) (s : sg) : Option sg :=
  if s 27 3 = 0 then
    (some (up s 27 3 x1)).bind fun s1 =>
    (some (up s1 27 4 x2)).bind fun s2 =>
    some s2
  else
    some s
set_option maxRecDepth 100000 in
theorem ok_T_fail {x1 : Int32} {x2 : Int32} {s : sg} {rv : sg} (hf : T_fail x1 x2 s = some rv) : mEnds [] 0 38 (0, [some (.ref 27), some (.int x1), some (.int x2)], [], hp shC s, 0, 0) (none, hp shC rv, 0, 0) := by
  unfold T_fail at hf
  refine mEnds.stp 1 (pc' := 1) (l' := [some (.ref 27), some (.int x1), some (.int x2)]) (st' := [.ref 27]) (fun _ => rfl) ?_
  refine t_gi (rfl : mfetch 38 1 = some (1, .getfield 29, 3, 3, 3, 0)) rfl rfl ?_
  by_cases hc1 : s 27 3 = 0
  · rw [if_pos hc1] at hf
    refine t_jF (rfl : mfetch 38 4 = some (4, .ifCond .ne 13, 3, 0, 0, 0)) (k_ne' hc1) ?_
    refine mEnds.stp 2 (pc' := 9) (l' := [some (.ref 27), some (.int x1), some (.int x2)]) (st' := [.int x1, .ref 27]) (fun _ => rfl) ?_
    obtain ⟨s1, hs1, hf⟩ := ob hf
    refine t_pi (rfl : mfetch 38 9 = some (9, .putfield 29, 3, 3, 3, 0)) rfl rfl rfl rfl hs1 ?_
    refine mEnds.stp 2 (pc' := 14) (l' := [some (.ref 27), some (.int x1), some (.int x2)]) (st' := [.int x2, .ref 27]) (fun _ => rfl) ?_
    obtain ⟨s2, hs2, hf⟩ := ob hf
    refine t_pi (rfl : mfetch 38 14 = some (14, .putfield 32, 3, 3, 4, 0)) rfl rfl rfl rfl hs2 ?_
    cases hf; exact mEnds.rt (fun _ => rfl)
  · rw [if_neg hc1] at hf
    refine t_jT (t := 17) (rfl : mfetch 38 4 = some (4, .ifCond .ne 13, 3, 0, 0, 0)) rfl (k_ne hc1) ?_
    cases hf; exact mEnds.rt (fun _ => rfl)
def T_isNamed_20 (w : Nat) (s : sg) : Nat → Int32 → Option Int32
  | 0, _ => none
  | fu + 1, x2 =>
  if x2 < nI (roS w).length then
    (midx ((s 27 7) + x2) 160).bind fun j1 =>
    (midx x2 (roS w).length).bind fun j2 =>
    if s 28 j1 = (roS w).getD j2 0 then
      T_isNamed_20 w s fu (x2 + (nI 1))
    else
      some (nI 0)
  else
    some (nI 1)
set_option maxRecDepth 100000 in
theorem ok_T_isNamed_20 {w : Nat} {s : sg} (hw3 : Nat.ble 3 w = true) (hw10 : Nat.blt w 10 = true) : ∀ (fu : Nat) (x2 : Int32) (rv : Int32), T_isNamed_20 w s fu x2 = some rv → mEnds [] 0 41 (20, [some (.ref 27), some (.ref w), some (.int x2)], [], hp shC s, 0, 0) (some (.int rv), hp shC s, 0, 0)
  | 0, _, _, hf => by cases hf
  | fu + 1, x2, rv, hf => by
    rw [T_isNamed_20] at hf
    refine mEnds.stp 2 (pc' := 22) (l' := [some (.ref 27), some (.ref w), some (.int x2)]) (st' := [.ref w, .int x2]) (fun _ => rfl) ?_
    refine t_sl (rfl : mfetch 41 22 = some (22, .invokevirtual 102, 3, 997, 8, 0)) hw3 hw10 rfl ?_
    by_cases hc1 : x2 < nI (roS w).length
    · rw [if_pos hc1] at hf
      refine t_cF (rfl : mfetch 41 25 = some (25, .if_icmp .ge 30, 3, 0, 0, 0)) (k_ge' hc1) ?_
      refine mEnds.stp 1 (pc' := 29) (l' := [some (.ref 27), some (.ref w), some (.int x2)]) (st' := [.ref 27]) (fun _ => rfl) ?_
      refine t_gr (rfl : mfetch 41 29 = some (29, .getfield 11, 3, 3, 0, 0)) rfl rfl ?_
      refine mEnds.stp 1 (pc' := 33) (l' := [some (.ref 27), some (.ref w), some (.int x2)]) (st' := [.ref 27, .ref 28]) (fun _ => rfl) ?_
      refine t_gi (rfl : mfetch 41 33 = some (33, .getfield 64, 3, 3, 7, 0)) rfl rfl ?_
      refine mEnds.stp 2 (pc' := 38) (l' := [some (.ref 27), some (.ref w), some (.int x2)]) (st' := [.int ((s 27 7) + x2), .ref 28]) (fun _ => rfl) ?_
      obtain ⟨j1, hj1, hf⟩ := ob hf
      refine t_ba (rfl : mfetch 41 38 = some (38, .baload, 1, 0, 0, 0)) rfl rfl rfl hj1 ?_
      refine mEnds.stp 2 (pc' := 41) (l' := [some (.ref 27), some (.ref w), some (.int x2)]) (st' := [.int x2, .ref w, .int (s 28 j1)]) (fun _ => rfl) ?_
      obtain ⟨j2, hj2, hf⟩ := ob hf
      refine t_sc (rfl : mfetch 41 41 = some (41, .invokevirtual 106, 3, 997, 9, 0)) hw3 hw10 rfl hj2 ?_
      by_cases hc2 : s 28 j1 = (roS w).getD j2 0
      · rw [if_pos hc2] at hf
        refine t_cT (t := 49) (rfl : mfetch 41 44 = some (44, .if_icmp .eq 5, 3, 0, 0, 0)) rfl (k_eq hc2) ?_
        refine mEnds.stp 2 (pc' := 20) (l' := [some (.ref 27), some (.ref w), some (.int (x2 + (nI 1)))]) (st' := []) (fun _ => rfl) ?_
        refine mEnds.cut (l := [some (.ref 27), some (.ref w), some (.int (x2 + (nI 1)))]) ⟨rfl, ⟨rfl, ⟨rfl, trivial⟩⟩⟩ ?_
        exact ok_T_isNamed_20 hw3 hw10 fu (x2 + (nI 1)) _ hf
      · rw [if_neg hc2] at hf
        refine t_cF (rfl : mfetch 41 44 = some (44, .if_icmp .eq 5, 3, 0, 0, 0)) (k_eq' hc2) ?_
        refine mEnds.stp 1 (pc' := 48) (l' := [some (.ref 27), some (.ref w), some (.int x2)]) (st' := [.int (nI 0)]) (fun _ => rfl) ?_
        cases hf; exact mEnds.rt (fun _ => rfl)
    · rw [if_neg hc1] at hf
      refine t_cT (t := 55) (rfl : mfetch 41 25 = some (25, .if_icmp .ge 30, 3, 0, 0, 0)) rfl (k_ge hc1) ?_
      refine mEnds.stp 1 (pc' := 56) (l' := [some (.ref 27), some (.ref w), some (.int x2)]) (st' := [.int (nI 1)]) (fun _ => rfl) ?_
      cases hf; exact mEnds.rt (fun _ => rfl)
def T_isNamed (w : Nat) (s : sg) : Option Int32 :=
  if (s 27 8) - (s 27 7) = nI (roS w).length then
    T_isNamed_20 w s FU (nI 0)
  else
    some (nI 0)
set_option maxRecDepth 100000 in
theorem ok_T_isNamed {w : Nat} (hw3 : Nat.ble 3 w = true) (hw10 : Nat.blt w 10 = true) {s : sg} {rv : Int32} (hf : T_isNamed w s = some rv) : mEnds [] 0 41 (0, [some (.ref 27), some (.ref w), none], [], hp shC s, 0, 0) (some (.int rv), hp shC s, 0, 0) := by
  unfold T_isNamed at hf
  refine mEnds.stp 1 (pc' := 1) (l' := [some (.ref 27), some (.ref w), none]) (st' := [.ref 27]) (fun _ => rfl) ?_
  refine t_gi (rfl : mfetch 41 1 = some (1, .getfield 38, 3, 3, 8, 0)) rfl rfl ?_
  refine mEnds.stp 1 (pc' := 5) (l' := [some (.ref 27), some (.ref w), none]) (st' := [.ref 27, .int (s 27 8)]) (fun _ => rfl) ?_
  refine t_gi (rfl : mfetch 41 5 = some (5, .getfield 64, 3, 3, 7, 0)) rfl rfl ?_
  refine mEnds.stp 2 (pc' := 10) (l' := [some (.ref 27), some (.ref w), none]) (st' := [.ref w, .int ((s 27 8) - (s 27 7))]) (fun _ => rfl) ?_
  refine t_sl (rfl : mfetch 41 10 = some (10, .invokevirtual 102, 3, 997, 8, 0)) hw3 hw10 rfl ?_
  by_cases hc1 : (s 27 8) - (s 27 7) = nI (roS w).length
  · rw [if_pos hc1] at hf
    refine t_cT (t := 18) (rfl : mfetch 41 13 = some (13, .if_icmp .eq 5, 3, 0, 0, 0)) rfl (k_eq hc1) ?_
    refine mEnds.stp 2 (pc' := 20) (l' := [some (.ref 27), some (.ref w), some (.int (nI 0))]) (st' := []) (fun _ => rfl) ?_
    refine mEnds.cut (l := [some (.ref 27), some (.ref w), some (.int (nI 0))]) ⟨rfl, ⟨rfl, ⟨rfl, trivial⟩⟩⟩ ?_
    exact ok_T_isNamed_20 hw3 hw10 FU (nI 0) _ hf
  · rw [if_neg hc1] at hf
    refine t_cF (rfl : mfetch 41 13 = some (13, .if_icmp .eq 5, 3, 0, 0, 0)) (k_eq' hc1) ?_
    refine mEnds.stp 1 (pc' := 17) (l' := [some (.ref 27), some (.ref w), none]) (st' := [.int (nI 0)]) (fun _ => rfl) ?_
    cases hf; exact mEnds.rt (fun _ => rfl)
def T_lineByName (s : sg) : Option Int32 :=
  (T_isNamed 3 s).bind fun v1 =>
  if v1 = 0 then
    (T_isNamed 4 s).bind fun v2 =>
    if v2 = 0 then
      (T_isNamed 5 s).bind fun v3 =>
      if v3 = 0 then
        (T_isNamed 6 s).bind fun v4 =>
        if v4 = 0 then
          (T_isNamed 7 s).bind fun v5 =>
          if v5 = 0 then
            (T_isNamed 8 s).bind fun v6 =>
            if v6 = 0 then
              (T_isNamed 9 s).bind fun v7 =>
              if v7 = 0 then
                some (nI 13)
              else
                some (nI 12)
            else
              some (nI 11)
          else
            some (nI 10)
        else
          some (nI 3)
      else
        some (nI 2)
    else
      some (nI 1)
  else
    some (nI 0)
set_option maxRecDepth 100000 in
theorem ok_T_lineByName {s : sg} {rv : Int32} (hf : T_lineByName s = some rv) : mEnds [] 1 40 (0, [some (.ref 27)], [], hp shC s, 0, 0) (some (.int rv), hp shC s, 0, 0) := by
  unfold T_lineByName at hf
  refine mEnds.stp 2 (pc' := 3) (l' := [some (.ref 27)]) (st' := [.ref 3, .ref 27]) (fun _ => rfl) ?_
  obtain ⟨v1, hv1, hf⟩ := ob hf
  refine t_cv (as := [.ref 3]) (st := []) (rfl : mfetch 40 3 = some (3, .invokevirtual 86, 3, 41, 0, 0)) rfl rfl rfl rfl rfl (ok_T_isNamed rfl rfl hv1) ?_
  by_cases hc1 : v1 = 0
  · rw [if_pos hc1] at hf
    refine t_jT (t := 11) (rfl : mfetch 40 6 = some (6, .ifCond .eq 5, 3, 0, 0, 0)) rfl (k_eq hc1) ?_
    refine mEnds.stp 2 (pc' := 14) (l' := [some (.ref 27)]) (st' := [.ref 4, .ref 27]) (fun _ => rfl) ?_
    obtain ⟨v2, hv2, hf⟩ := ob hf
    refine t_cv (as := [.ref 4]) (st := []) (rfl : mfetch 40 14 = some (14, .invokevirtual 86, 3, 41, 0, 0)) rfl rfl rfl rfl rfl (ok_T_isNamed rfl rfl hv2) ?_
    by_cases hc2 : v2 = 0
    · rw [if_pos hc2] at hf
      refine t_jT (t := 22) (rfl : mfetch 40 17 = some (17, .ifCond .eq 5, 3, 0, 0, 0)) rfl (k_eq hc2) ?_
      refine mEnds.stp 2 (pc' := 25) (l' := [some (.ref 27)]) (st' := [.ref 5, .ref 27]) (fun _ => rfl) ?_
      obtain ⟨v3, hv3, hf⟩ := ob hf
      refine t_cv (as := [.ref 5]) (st := []) (rfl : mfetch 40 25 = some (25, .invokevirtual 86, 3, 41, 0, 0)) rfl rfl rfl rfl rfl (ok_T_isNamed rfl rfl hv3) ?_
      by_cases hc3 : v3 = 0
      · rw [if_pos hc3] at hf
        refine t_jT (t := 33) (rfl : mfetch 40 28 = some (28, .ifCond .eq 5, 3, 0, 0, 0)) rfl (k_eq hc3) ?_
        refine mEnds.stp 2 (pc' := 36) (l' := [some (.ref 27)]) (st' := [.ref 6, .ref 27]) (fun _ => rfl) ?_
        obtain ⟨v4, hv4, hf⟩ := ob hf
        refine t_cv (as := [.ref 6]) (st := []) (rfl : mfetch 40 36 = some (36, .invokevirtual 86, 3, 41, 0, 0)) rfl rfl rfl rfl rfl (ok_T_isNamed rfl rfl hv4) ?_
        by_cases hc4 : v4 = 0
        · rw [if_pos hc4] at hf
          refine t_jT (t := 44) (rfl : mfetch 40 39 = some (39, .ifCond .eq 5, 3, 0, 0, 0)) rfl (k_eq hc4) ?_
          refine mEnds.stp 2 (pc' := 47) (l' := [some (.ref 27)]) (st' := [.ref 7, .ref 27]) (fun _ => rfl) ?_
          obtain ⟨v5, hv5, hf⟩ := ob hf
          refine t_cv (as := [.ref 7]) (st := []) (rfl : mfetch 40 47 = some (47, .invokevirtual 86, 3, 41, 0, 0)) rfl rfl rfl rfl rfl (ok_T_isNamed rfl rfl hv5) ?_
          by_cases hc5 : v5 = 0
          · rw [if_pos hc5] at hf
            refine t_jT (t := 56) (rfl : mfetch 40 50 = some (50, .ifCond .eq 6, 3, 0, 0, 0)) rfl (k_eq hc5) ?_
            refine mEnds.stp 2 (pc' := 59) (l' := [some (.ref 27)]) (st' := [.ref 8, .ref 27]) (fun _ => rfl) ?_
            obtain ⟨v6, hv6, hf⟩ := ob hf
            refine t_cv (as := [.ref 8]) (st := []) (rfl : mfetch 40 59 = some (59, .invokevirtual 86, 3, 41, 0, 0)) rfl rfl rfl rfl rfl (ok_T_isNamed rfl rfl hv6) ?_
            by_cases hc6 : v6 = 0
            · rw [if_pos hc6] at hf
              refine t_jT (t := 68) (rfl : mfetch 40 62 = some (62, .ifCond .eq 6, 3, 0, 0, 0)) rfl (k_eq hc6) ?_
              refine mEnds.stp 2 (pc' := 71) (l' := [some (.ref 27)]) (st' := [.ref 9, .ref 27]) (fun _ => rfl) ?_
              obtain ⟨v7, hv7, hf⟩ := ob hf
              refine t_cv (as := [.ref 9]) (st := []) (rfl : mfetch 40 71 = some (71, .invokevirtual 86, 3, 41, 0, 0)) rfl rfl rfl rfl rfl (ok_T_isNamed rfl rfl hv7) ?_
              by_cases hc7 : v7 = 0
              · rw [if_pos hc7] at hf
                refine t_jT (t := 82) (rfl : mfetch 40 74 = some (74, .ifCond .eq 8, 3, 0, 0, 0)) rfl (k_eq hc7) ?_
                refine mEnds.stp 1 (pc' := 84) (l' := [some (.ref 27)]) (st' := [.int (nI 13)]) (fun _ => rfl) ?_
                cases hf; exact mEnds.rt (fun _ => rfl)
              · rw [if_neg hc7] at hf
                refine t_jF (rfl : mfetch 40 74 = some (74, .ifCond .eq 8, 3, 0, 0, 0)) (k_eq' hc7) ?_
                refine mEnds.stp 2 (pc' := 84) (l' := [some (.ref 27)]) (st' := [.int (nI 12)]) (fun _ => rfl) ?_
                cases hf; exact mEnds.rt (fun _ => rfl)
            · rw [if_neg hc6] at hf
              refine t_jF (rfl : mfetch 40 62 = some (62, .ifCond .eq 6, 3, 0, 0, 0)) (k_eq' hc6) ?_
              refine mEnds.stp 1 (pc' := 67) (l' := [some (.ref 27)]) (st' := [.int (nI 11)]) (fun _ => rfl) ?_
              cases hf; exact mEnds.rt (fun _ => rfl)
          · rw [if_neg hc5] at hf
            refine t_jF (rfl : mfetch 40 50 = some (50, .ifCond .eq 6, 3, 0, 0, 0)) (k_eq' hc5) ?_
            refine mEnds.stp 1 (pc' := 55) (l' := [some (.ref 27)]) (st' := [.int (nI 10)]) (fun _ => rfl) ?_
            cases hf; exact mEnds.rt (fun _ => rfl)
        · rw [if_neg hc4] at hf
          refine t_jF (rfl : mfetch 40 39 = some (39, .ifCond .eq 5, 3, 0, 0, 0)) (k_eq' hc4) ?_
          refine mEnds.stp 1 (pc' := 43) (l' := [some (.ref 27)]) (st' := [.int (nI 3)]) (fun _ => rfl) ?_
          cases hf; exact mEnds.rt (fun _ => rfl)
      · rw [if_neg hc3] at hf
        refine t_jF (rfl : mfetch 40 28 = some (28, .ifCond .eq 5, 3, 0, 0, 0)) (k_eq' hc3) ?_
        refine mEnds.stp 1 (pc' := 32) (l' := [some (.ref 27)]) (st' := [.int (nI 2)]) (fun _ => rfl) ?_
        cases hf; exact mEnds.rt (fun _ => rfl)
    · rw [if_neg hc2] at hf
      refine t_jF (rfl : mfetch 40 17 = some (17, .ifCond .eq 5, 3, 0, 0, 0)) (k_eq' hc2) ?_
      refine mEnds.stp 1 (pc' := 21) (l' := [some (.ref 27)]) (st' := [.int (nI 1)]) (fun _ => rfl) ?_
      cases hf; exact mEnds.rt (fun _ => rfl)
  · rw [if_neg hc1] at hf
    refine t_jF (rfl : mfetch 40 6 = some (6, .ifCond .eq 5, 3, 0, 0, 0)) (k_eq' hc1) ?_
    refine mEnds.stp 1 (pc' := 10) (l' := [some (.ref 27)]) (st' := [.int (nI 0)]) (fun _ => rfl) ?_
    cases hf; exact mEnds.rt (fun _ => rfl)
def T_placeOfNext_5 (s : sg) : Nat → Int32 → Option Int32
  | 0, _ => none
  | fu + 1, x1 =>
  if x1 < s 27 1 then
    (midx x1 160).bind fun j1 =>
    if s 28 j1 = nI 32 then
      T_placeOfNext_5 s fu (x1 + (nI 1))
    else
      some x1
  else
    some x1
set_option maxRecDepth 100000 in
theorem ok_T_placeOfNext_5 {s : sg} : ∀ (fu : Nat) (x1 : Int32) (rv : Int32), T_placeOfNext_5 s fu x1 = some rv → mEnds [] 0 51 (5, [some (.ref 27), some (.int x1)], [], hp shC s, 0, 0) (some (.int rv), hp shC s, 0, 0)
  | 0, _, _, hf => by cases hf
  | fu + 1, x1, rv, hf => by
    rw [T_placeOfNext_5] at hf
    refine mEnds.stp 2 (pc' := 7) (l' := [some (.ref 27), some (.int x1)]) (st' := [.ref 27, .int x1]) (fun _ => rfl) ?_
    refine t_gi (rfl : mfetch 51 7 = some (7, .getfield 22, 3, 3, 1, 0)) rfl rfl ?_
    by_cases hc1 : x1 < s 27 1
    · rw [if_pos hc1] at hf
      refine t_cF (rfl : mfetch 51 10 = some (10, .if_icmp .ge 20, 3, 0, 0, 0)) (k_ge' hc1) ?_
      refine mEnds.stp 1 (pc' := 14) (l' := [some (.ref 27), some (.int x1)]) (st' := [.ref 27]) (fun _ => rfl) ?_
      refine t_gr (rfl : mfetch 51 14 = some (14, .getfield 11, 3, 3, 0, 0)) rfl rfl ?_
      refine mEnds.stp 1 (pc' := 18) (l' := [some (.ref 27), some (.int x1)]) (st' := [.int x1, .ref 28]) (fun _ => rfl) ?_
      obtain ⟨j1, hj1, hf⟩ := ob hf
      refine t_ba (rfl : mfetch 51 18 = some (18, .baload, 1, 0, 0, 0)) rfl rfl rfl hj1 ?_
      refine mEnds.stp 1 (pc' := 21) (l' := [some (.ref 27), some (.int x1)]) (st' := [.int (nI 32), .int (s 28 j1)]) (fun _ => rfl) ?_
      by_cases hc2 : s 28 j1 = nI 32
      · rw [if_pos hc2] at hf
        refine t_cF (rfl : mfetch 51 21 = some (21, .if_icmp .ne 9, 3, 0, 0, 0)) (k_ne' hc2) ?_
        refine mEnds.stp 2 (pc' := 5) (l' := [some (.ref 27), some (.int (x1 + (nI 1)))]) (st' := []) (fun _ => rfl) ?_
        refine mEnds.cut (l := [some (.ref 27), some (.int (x1 + (nI 1)))]) ⟨rfl, ⟨rfl, trivial⟩⟩ ?_
        exact ok_T_placeOfNext_5 fu (x1 + (nI 1)) _ hf
      · rw [if_neg hc2] at hf
        refine t_cT (t := 30) (rfl : mfetch 51 21 = some (21, .if_icmp .ne 9, 3, 0, 0, 0)) rfl (k_ne hc2) ?_
        refine mEnds.stp 1 (pc' := 31) (l' := [some (.ref 27), some (.int x1)]) (st' := [.int x1]) (fun _ => rfl) ?_
        cases hf; exact mEnds.rt (fun _ => rfl)
    · rw [if_neg hc1] at hf
      refine t_cT (t := 30) (rfl : mfetch 51 10 = some (10, .if_icmp .ge 20, 3, 0, 0, 0)) rfl (k_ge hc1) ?_
      refine mEnds.stp 1 (pc' := 31) (l' := [some (.ref 27), some (.int x1)]) (st' := [.int x1]) (fun _ => rfl) ?_
      cases hf; exact mEnds.rt (fun _ => rfl)
def T_placeOfNext (s : sg) : Option Int32 :=
  T_placeOfNext_5 s FU (s 27 8)
set_option maxRecDepth 100000 in
theorem ok_T_placeOfNext {s : sg} {rv : Int32} (hf : T_placeOfNext s = some rv) : mEnds [] 0 51 (0, [some (.ref 27), none], [], hp shC s, 0, 0) (some (.int rv), hp shC s, 0, 0) := by
  unfold T_placeOfNext at hf
  refine mEnds.stp 1 (pc' := 1) (l' := [some (.ref 27), none]) (st' := [.ref 27]) (fun _ => rfl) ?_
  refine t_gi (rfl : mfetch 51 1 = some (1, .getfield 38, 3, 3, 8, 0)) rfl rfl ?_
  refine mEnds.stp 1 (pc' := 5) (l' := [some (.ref 27), some (.int (s 27 8))]) (st' := []) (fun _ => rfl) ?_
  refine mEnds.cut (l := [some (.ref 27), some (.int (s 27 8))]) ⟨rfl, ⟨rfl, trivial⟩⟩ ?_
  exact ok_T_placeOfNext_5 FU (s 27 8) _ hf
def T_sortOf_28 (x0 : Int32) (s : sg) : Option Int32 :=
  if x0 = nI 59 then
    some (nI 3)
  else
    some (nI 4)
set_option maxRecDepth 100000 in
theorem ok_T_sortOf_28 {x0 : Int32} {s : sg} {rv : Int32} (hf : T_sortOf_28 x0 s = some rv) : mEnds [] 0 52 (28, [some (.int x0)], [], hp shC s, 0, 0) (some (.int rv), hp shC s, 0, 0) := by
  unfold T_sortOf_28 at hf
  refine mEnds.stp 2 (pc' := 31) (l' := [some (.int x0)]) (st' := [.int (nI 59), .int x0]) (fun _ => rfl) ?_
  by_cases hc1 : x0 = nI 59
  · rw [if_pos hc1] at hf
    refine t_cF (rfl : mfetch 52 31 = some (31, .if_icmp .ne 7, 3, 0, 0, 0)) (k_ne' hc1) ?_
    refine mEnds.stp 2 (pc' := 39) (l' := [some (.int x0)]) (st' := [.int (nI 3)]) (fun _ => rfl) ?_
    cases hf; exact mEnds.rt (fun _ => rfl)
  · rw [if_neg hc1] at hf
    refine t_cT (t := 38) (rfl : mfetch 52 31 = some (31, .if_icmp .ne 7, 3, 0, 0, 0)) rfl (k_ne hc1) ?_
    refine mEnds.stp 1 (pc' := 39) (l' := [some (.int x0)]) (st' := [.int (nI 4)]) (fun _ => rfl) ?_
    cases hf; exact mEnds.rt (fun _ => rfl)
def T_sortOf_14 (x0 : Int32) (s : sg) : Option Int32 :=
  if x0 < nI 48 then
    T_sortOf_28 x0 s
  else
    if nI 57 < x0 then
      T_sortOf_28 x0 s
    else
      some (nI 2)
set_option maxRecDepth 100000 in
theorem ok_T_sortOf_14 {x0 : Int32} {s : sg} {rv : Int32} (hf : T_sortOf_14 x0 s = some rv) : mEnds [] 0 52 (14, [some (.int x0)], [], hp shC s, 0, 0) (some (.int rv), hp shC s, 0, 0) := by
  unfold T_sortOf_14 at hf
  refine mEnds.stp 2 (pc' := 17) (l' := [some (.int x0)]) (st' := [.int (nI 48), .int x0]) (fun _ => rfl) ?_
  by_cases hc1 : x0 < nI 48
  · rw [if_pos hc1] at hf
    refine t_cT (t := 28) (rfl : mfetch 52 17 = some (17, .if_icmp .lt 11, 3, 0, 0, 0)) rfl (k_lt hc1) ?_
    refine mEnds.cut (l := [some (.int x0)]) ⟨rfl, trivial⟩ ?_
    exact ok_T_sortOf_28 hf
  · rw [if_neg hc1] at hf
    refine t_cF (rfl : mfetch 52 17 = some (17, .if_icmp .lt 11, 3, 0, 0, 0)) (k_lt' hc1) ?_
    refine mEnds.stp 2 (pc' := 23) (l' := [some (.int x0)]) (st' := [.int (nI 57), .int x0]) (fun _ => rfl) ?_
    by_cases hc2 : nI 57 < x0
    · rw [if_pos hc2] at hf
      refine t_cT (t := 28) (rfl : mfetch 52 23 = some (23, .if_icmp .gt 5, 3, 0, 0, 0)) rfl (k_gt hc2) ?_
      refine mEnds.cut (l := [some (.int x0)]) ⟨rfl, trivial⟩ ?_
      exact ok_T_sortOf_28 hf
    · rw [if_neg hc2] at hf
      refine t_cF (rfl : mfetch 52 23 = some (23, .if_icmp .gt 5, 3, 0, 0, 0)) (k_gt' hc2) ?_
      refine mEnds.stp 1 (pc' := 27) (l' := [some (.int x0)]) (st' := [.int (nI 2)]) (fun _ => rfl) ?_
      cases hf; exact mEnds.rt (fun _ => rfl)
def T_sortOf (x0 : Int32) (s : sg) : Option Int32 :=
  if x0 < nI 97 then
    T_sortOf_14 x0 s
  else
    if nI 122 < x0 then
      T_sortOf_14 x0 s
    else
      some (nI 1)
set_option maxRecDepth 100000 in
theorem ok_T_sortOf {x0 : Int32} {s : sg} {rv : Int32} (hf : T_sortOf x0 s = some rv) : mEnds [] 0 52 (0, [some (.int x0)], [], hp shC s, 0, 0) (some (.int rv), hp shC s, 0, 0) := by
  unfold T_sortOf at hf
  refine mEnds.stp 2 (pc' := 3) (l' := [some (.int x0)]) (st' := [.int (nI 97), .int x0]) (fun _ => rfl) ?_
  by_cases hc1 : x0 < nI 97
  · rw [if_pos hc1] at hf
    refine t_cT (t := 14) (rfl : mfetch 52 3 = some (3, .if_icmp .lt 11, 3, 0, 0, 0)) rfl (k_lt hc1) ?_
    refine mEnds.cut (l := [some (.int x0)]) ⟨rfl, trivial⟩ ?_
    exact ok_T_sortOf_14 hf
  · rw [if_neg hc1] at hf
    refine t_cF (rfl : mfetch 52 3 = some (3, .if_icmp .lt 11, 3, 0, 0, 0)) (k_lt' hc1) ?_
    refine mEnds.stp 2 (pc' := 9) (l' := [some (.int x0)]) (st' := [.int (nI 122), .int x0]) (fun _ => rfl) ?_
    by_cases hc2 : nI 122 < x0
    · rw [if_pos hc2] at hf
      refine t_cT (t := 14) (rfl : mfetch 52 9 = some (9, .if_icmp .gt 5, 3, 0, 0, 0)) rfl (k_gt hc2) ?_
      refine mEnds.cut (l := [some (.int x0)]) ⟨rfl, trivial⟩ ?_
      exact ok_T_sortOf_14 hf
    · rw [if_neg hc2] at hf
      refine t_cF (rfl : mfetch 52 9 = some (9, .if_icmp .gt 5, 3, 0, 0, 0)) (k_gt' hc2) ?_
      refine mEnds.stp 1 (pc' := 13) (l' := [some (.int x0)]) (st' := [.int (nI 1)]) (fun _ => rfl) ?_
      cases hf; exact mEnds.rt (fun _ => rfl)
def T_nextToken_153 (s : sg) : Option sg :=
  (some (up s 27 6 (nI 4))).bind fun s1 =>
  (T_fail (nI 1) (s1 27 7) s1).bind fun s2 =>
  some s2
set_option maxRecDepth 100000 in
theorem ok_T_nextToken_153 {s : sg} {rv : sg} (hf : T_nextToken_153 s = some rv) : mEnds [] 1 50 (153, [some (.ref 27)], [], hp shC s, 0, 0) (none, hp shC rv, 0, 0) := by
  unfold T_nextToken_153 at hf
  refine mEnds.stp 2 (pc' := 155) (l' := [some (.ref 27)]) (st' := [.int (nI 4), .ref 27]) (fun _ => rfl) ?_
  obtain ⟨s1, hs1, hf⟩ := ob hf
  refine t_pi (rfl : mfetch 50 155 = some (155, .putfield 51, 3, 3, 6, 0)) rfl rfl rfl rfl hs1 ?_
  refine mEnds.stp 3 (pc' := 161) (l' := [some (.ref 27)]) (st' := [.ref 27, .int (nI 1), .ref 27]) (fun _ => rfl) ?_
  refine t_gi (rfl : mfetch 50 161 = some (161, .getfield 64, 3, 3, 7, 0)) rfl rfl ?_
  obtain ⟨s2, hs2, hf⟩ := ob hf
  refine t_cv (as := [.int (nI 1), .int (s1 27 7)]) (st := []) (rfl : mfetch 50 164 = some (164, .invokevirtual 67, 3, 38, 0, 0)) rfl rfl rfl rfl rfl (ok_T_fail hs2) ?_
  cases hf; exact mEnds.rt (fun _ => rfl)
def T_nextToken_124 (s : sg) : Option sg :=
  if s 27 6 = nI 4 then
    T_nextToken_153 s
  else
    if s 27 6 = nI 2 then
      if nI 2 < (s 27 8) - (s 27 7) then
        T_nextToken_153 s
      else
        some s
    else
      some s
set_option maxRecDepth 100000 in
theorem ok_T_nextToken_124 {s : sg} {rv : sg} (hf : T_nextToken_124 s = some rv) : mEnds [] 1 50 (124, [some (.ref 27)], [], hp shC s, 0, 0) (none, hp shC rv, 0, 0) := by
  unfold T_nextToken_124 at hf
  refine mEnds.stp 1 (pc' := 125) (l' := [some (.ref 27)]) (st' := [.ref 27]) (fun _ => rfl) ?_
  refine t_gi (rfl : mfetch 50 125 = some (125, .getfield 51, 3, 3, 6, 0)) rfl rfl ?_
  refine mEnds.stp 1 (pc' := 129) (l' := [some (.ref 27)]) (st' := [.int (nI 4), .int (s 27 6)]) (fun _ => rfl) ?_
  by_cases hc1 : s 27 6 = nI 4
  · rw [if_pos hc1] at hf
    refine t_cT (t := 153) (rfl : mfetch 50 129 = some (129, .if_icmp .eq 24, 3, 0, 0, 0)) rfl (k_eq hc1) ?_
    refine mEnds.cut (l := [some (.ref 27)]) ⟨rfl, trivial⟩ ?_
    exact ok_T_nextToken_153 hf
  · rw [if_neg hc1] at hf
    refine t_cF (rfl : mfetch 50 129 = some (129, .if_icmp .eq 24, 3, 0, 0, 0)) (k_eq' hc1) ?_
    refine mEnds.stp 1 (pc' := 133) (l' := [some (.ref 27)]) (st' := [.ref 27]) (fun _ => rfl) ?_
    refine t_gi (rfl : mfetch 50 133 = some (133, .getfield 51, 3, 3, 6, 0)) rfl rfl ?_
    refine mEnds.stp 1 (pc' := 137) (l' := [some (.ref 27)]) (st' := [.int (nI 2), .int (s 27 6)]) (fun _ => rfl) ?_
    by_cases hc2 : s 27 6 = nI 2
    · rw [if_pos hc2] at hf
      refine t_cF (rfl : mfetch 50 137 = some (137, .if_icmp .ne 30, 3, 0, 0, 0)) (k_ne' hc2) ?_
      refine mEnds.stp 1 (pc' := 141) (l' := [some (.ref 27)]) (st' := [.ref 27]) (fun _ => rfl) ?_
      refine t_gi (rfl : mfetch 50 141 = some (141, .getfield 38, 3, 3, 8, 0)) rfl rfl ?_
      refine mEnds.stp 1 (pc' := 145) (l' := [some (.ref 27)]) (st' := [.ref 27, .int (s 27 8)]) (fun _ => rfl) ?_
      refine t_gi (rfl : mfetch 50 145 = some (145, .getfield 64, 3, 3, 7, 0)) rfl rfl ?_
      refine mEnds.stp 2 (pc' := 150) (l' := [some (.ref 27)]) (st' := [.int (nI 2), .int ((s 27 8) - (s 27 7))]) (fun _ => rfl) ?_
      by_cases hc3 : nI 2 < (s 27 8) - (s 27 7)
      · rw [if_pos hc3] at hf
        refine t_cF (rfl : mfetch 50 150 = some (150, .if_icmp .le 17, 3, 0, 0, 0)) (k_le' hc3) ?_
        refine mEnds.cut (l := [some (.ref 27)]) ⟨rfl, trivial⟩ ?_
        exact ok_T_nextToken_153 hf
      · rw [if_neg hc3] at hf
        refine t_cT (t := 167) (rfl : mfetch 50 150 = some (150, .if_icmp .le 17, 3, 0, 0, 0)) rfl (k_le hc3) ?_
        cases hf; exact mEnds.rt (fun _ => rfl)
    · rw [if_neg hc2] at hf
      refine t_cT (t := 167) (rfl : mfetch 50 137 = some (137, .if_icmp .ne 30, 3, 0, 0, 0)) rfl (k_ne hc2) ?_
      cases hf; exact mEnds.rt (fun _ => rfl)
def T_nextToken_81 : Nat → sg → Option sg
  | 0, _ => none
  | fu + 1, s =>
  if s 27 8 < s 27 1 then
    (midx (s 27 8) 160).bind fun j1 =>
    (T_sortOf (s 28 j1) s).bind fun v1 =>
    if v1 = s 27 6 then
      (some (up s 27 8 ((s 27 8) + (nI 1)))).bind fun s1 =>
      T_nextToken_81 fu s1
    else
      T_nextToken_124 s
  else
    T_nextToken_124 s
set_option maxRecDepth 100000 in
theorem ok_T_nextToken_81 : ∀ (fu : Nat) (s : sg) (rv : sg), T_nextToken_81 fu s = some rv → mEnds [] 1 50 (81, [some (.ref 27)], [], hp shC s, 0, 0) (none, hp shC rv, 0, 0)
  | 0, _, _, hf => by cases hf
  | fu + 1, s, rv, hf => by
    rw [T_nextToken_81] at hf
    refine mEnds.stp 1 (pc' := 82) (l' := [some (.ref 27)]) (st' := [.ref 27]) (fun _ => rfl) ?_
    refine t_gi (rfl : mfetch 50 82 = some (82, .getfield 38, 3, 3, 8, 0)) rfl rfl ?_
    refine mEnds.stp 1 (pc' := 86) (l' := [some (.ref 27)]) (st' := [.ref 27, .int (s 27 8)]) (fun _ => rfl) ?_
    refine t_gi (rfl : mfetch 50 86 = some (86, .getfield 22, 3, 3, 1, 0)) rfl rfl ?_
    by_cases hc1 : s 27 8 < s 27 1
    · rw [if_pos hc1] at hf
      refine t_cF (rfl : mfetch 50 89 = some (89, .if_icmp .ge 35, 3, 0, 0, 0)) (k_ge' hc1) ?_
      refine mEnds.stp 1 (pc' := 93) (l' := [some (.ref 27)]) (st' := [.ref 27]) (fun _ => rfl) ?_
      refine t_gr (rfl : mfetch 50 93 = some (93, .getfield 11, 3, 3, 0, 0)) rfl rfl ?_
      refine mEnds.stp 1 (pc' := 97) (l' := [some (.ref 27)]) (st' := [.ref 27, .ref 28]) (fun _ => rfl) ?_
      refine t_gi (rfl : mfetch 50 97 = some (97, .getfield 38, 3, 3, 8, 0)) rfl rfl ?_
      obtain ⟨j1, hj1, hf⟩ := ob hf
      refine t_ba (rfl : mfetch 50 100 = some (100, .baload, 1, 0, 0, 0)) rfl rfl rfl hj1 ?_
      obtain ⟨v1, hv1, hf⟩ := ob hf
      refine t_cs (as := [.int (s 28 j1)]) (st := []) (Or.inl rfl) (rfl : mfetch 50 101 = some (101, .invokestatic 155, 3, 52, 0, 0)) rfl rfl rfl (ok_T_sortOf hv1) ?_
      refine mEnds.stp 1 (pc' := 105) (l' := [some (.ref 27)]) (st' := [.ref 27, .int v1]) (fun _ => rfl) ?_
      refine t_gi (rfl : mfetch 50 105 = some (105, .getfield 51, 3, 3, 6, 0)) rfl rfl ?_
      by_cases hc2 : v1 = s 27 6
      · rw [if_pos hc2] at hf
        refine t_cF (rfl : mfetch 50 108 = some (108, .if_icmp .ne 16, 3, 0, 0, 0)) (k_ne' hc2) ?_
        refine mEnds.stp 2 (pc' := 113) (l' := [some (.ref 27)]) (st' := [.ref 27, .ref 27]) (fun _ => rfl) ?_
        refine t_gi (rfl : mfetch 50 113 = some (113, .getfield 38, 3, 3, 8, 0)) rfl rfl ?_
        refine mEnds.stp 2 (pc' := 118) (l' := [some (.ref 27)]) (st' := [.int ((s 27 8) + (nI 1)), .ref 27]) (fun _ => rfl) ?_
        obtain ⟨s1, hs1, hf⟩ := ob hf
        refine t_pi (rfl : mfetch 50 118 = some (118, .putfield 38, 3, 3, 8, 0)) rfl rfl rfl rfl hs1 ?_
        refine mEnds.stp 1 (pc' := 81) (l' := [some (.ref 27)]) (st' := []) (fun _ => rfl) ?_
        refine mEnds.cut (l := [some (.ref 27)]) ⟨rfl, trivial⟩ ?_
        exact ok_T_nextToken_81 fu s1 _ hf
      · rw [if_neg hc2] at hf
        refine t_cT (t := 124) (rfl : mfetch 50 108 = some (108, .if_icmp .ne 16, 3, 0, 0, 0)) rfl (k_ne hc2) ?_
        refine mEnds.cut (l := [some (.ref 27)]) ⟨rfl, trivial⟩ ?_
        exact ok_T_nextToken_124 hf
    · rw [if_neg hc1] at hf
      refine t_cT (t := 124) (rfl : mfetch 50 89 = some (89, .if_icmp .ge 35, 3, 0, 0, 0)) rfl (k_ge hc1) ?_
      refine mEnds.cut (l := [some (.ref 27)]) ⟨rfl, trivial⟩ ?_
      exact ok_T_nextToken_124 hf
def T_nextToken_65 (s : sg) : Option sg :=
  if s 27 6 = nI 1 then
    T_nextToken_81 FU s
  else
    if s 27 6 = nI 2 then
      T_nextToken_81 FU s
    else
      T_nextToken_124 s
set_option maxRecDepth 100000 in
theorem ok_T_nextToken_65 {s : sg} {rv : sg} (hf : T_nextToken_65 s = some rv) : mEnds [] 1 50 (65, [some (.ref 27)], [], hp shC s, 0, 0) (none, hp shC rv, 0, 0) := by
  unfold T_nextToken_65 at hf
  refine mEnds.stp 1 (pc' := 66) (l' := [some (.ref 27)]) (st' := [.ref 27]) (fun _ => rfl) ?_
  refine t_gi (rfl : mfetch 50 66 = some (66, .getfield 51, 3, 3, 6, 0)) rfl rfl ?_
  refine mEnds.stp 1 (pc' := 70) (l' := [some (.ref 27)]) (st' := [.int (nI 1), .int (s 27 6)]) (fun _ => rfl) ?_
  by_cases hc1 : s 27 6 = nI 1
  · rw [if_pos hc1] at hf
    refine t_cT (t := 81) (rfl : mfetch 50 70 = some (70, .if_icmp .eq 11, 3, 0, 0, 0)) rfl (k_eq hc1) ?_
    refine mEnds.cut (l := [some (.ref 27)]) ⟨rfl, trivial⟩ ?_
    exact ok_T_nextToken_81 FU s _ hf
  · rw [if_neg hc1] at hf
    refine t_cF (rfl : mfetch 50 70 = some (70, .if_icmp .eq 11, 3, 0, 0, 0)) (k_eq' hc1) ?_
    refine mEnds.stp 1 (pc' := 74) (l' := [some (.ref 27)]) (st' := [.ref 27]) (fun _ => rfl) ?_
    refine t_gi (rfl : mfetch 50 74 = some (74, .getfield 51, 3, 3, 6, 0)) rfl rfl ?_
    refine mEnds.stp 1 (pc' := 78) (l' := [some (.ref 27)]) (st' := [.int (nI 2), .int (s 27 6)]) (fun _ => rfl) ?_
    by_cases hc2 : s 27 6 = nI 2
    · rw [if_pos hc2] at hf
      refine t_cF (rfl : mfetch 50 78 = some (78, .if_icmp .ne 46, 3, 0, 0, 0)) (k_ne' hc2) ?_
      refine mEnds.cut (l := [some (.ref 27)]) ⟨rfl, trivial⟩ ?_
      exact ok_T_nextToken_81 FU s _ hf
    · rw [if_neg hc2] at hf
      refine t_cT (t := 124) (rfl : mfetch 50 78 = some (78, .if_icmp .ne 46, 3, 0, 0, 0)) rfl (k_ne hc2) ?_
      refine mEnds.cut (l := [some (.ref 27)]) ⟨rfl, trivial⟩ ?_
      exact ok_T_nextToken_124 hf
def T_nextToken_44 (y0 : Int32) (s : sg) : Option sg :=
  (some (up s 27 6 y0)).bind fun s1 =>
  if s1 27 6 = nI 3 then
    (some (up s1 27 8 ((s1 27 8) + (nI 1)))).bind fun s2 =>
    T_nextToken_65 s2
  else
    T_nextToken_65 s1
set_option maxRecDepth 100000 in
theorem ok_T_nextToken_44 {y0 : Int32} {s : sg} {rv : sg} (hf : T_nextToken_44 y0 s = some rv) : mEnds [] 1 50 (44, [some (.ref 27)], [.int y0, .ref 27], hp shC s, 0, 0) (none, hp shC rv, 0, 0) := by
  unfold T_nextToken_44 at hf
  obtain ⟨s1, hs1, hf⟩ := ob hf
  refine t_pi (rfl : mfetch 50 44 = some (44, .putfield 51, 3, 3, 6, 0)) rfl rfl rfl rfl hs1 ?_
  refine mEnds.stp 1 (pc' := 48) (l' := [some (.ref 27)]) (st' := [.ref 27]) (fun _ => rfl) ?_
  refine t_gi (rfl : mfetch 50 48 = some (48, .getfield 51, 3, 3, 6, 0)) rfl rfl ?_
  refine mEnds.stp 1 (pc' := 52) (l' := [some (.ref 27)]) (st' := [.int (nI 3), .int (s1 27 6)]) (fun _ => rfl) ?_
  by_cases hc1 : s1 27 6 = nI 3
  · rw [if_pos hc1] at hf
    refine t_cF (rfl : mfetch 50 52 = some (52, .if_icmp .ne 13, 3, 0, 0, 0)) (k_ne' hc1) ?_
    refine mEnds.stp 2 (pc' := 57) (l' := [some (.ref 27)]) (st' := [.ref 27, .ref 27]) (fun _ => rfl) ?_
    refine t_gi (rfl : mfetch 50 57 = some (57, .getfield 38, 3, 3, 8, 0)) rfl rfl ?_
    refine mEnds.stp 2 (pc' := 62) (l' := [some (.ref 27)]) (st' := [.int ((s1 27 8) + (nI 1)), .ref 27]) (fun _ => rfl) ?_
    obtain ⟨s2, hs2, hf⟩ := ob hf
    refine t_pi (rfl : mfetch 50 62 = some (62, .putfield 38, 3, 3, 8, 0)) rfl rfl rfl rfl hs2 ?_
    refine mEnds.cut (l := [some (.ref 27)]) ⟨rfl, trivial⟩ ?_
    exact ok_T_nextToken_65 hf
  · rw [if_neg hc1] at hf
    refine t_cT (t := 65) (rfl : mfetch 50 52 = some (52, .if_icmp .ne 13, 3, 0, 0, 0)) rfl (k_ne hc1) ?_
    refine mEnds.cut (l := [some (.ref 27)]) ⟨rfl, trivial⟩ ?_
    exact ok_T_nextToken_65 hf
def T_nextToken (s : sg) : Option sg :=
  (T_placeOfNext s).bind fun v1 =>
  (some (up s 27 7 v1)).bind fun s1 =>
  (some (up s1 27 8 (s1 27 7))).bind fun s2 =>
  if s2 27 7 < s2 27 1 then
    (midx (s2 27 7) 160).bind fun j1 =>
    (T_sortOf (s2 28 j1) s2).bind fun v2 =>
    T_nextToken_44 v2 s2
  else
    T_nextToken_44 (nI 0) s2
set_option maxRecDepth 100000 in
theorem ok_T_nextToken {s : sg} {rv : sg} (hf : T_nextToken s = some rv) : mEnds [] 1 50 (0, [some (.ref 27)], [], hp shC s, 0, 0) (none, hp shC rv, 0, 0) := by
  unfold T_nextToken at hf
  refine mEnds.stp 2 (pc' := 2) (l' := [some (.ref 27)]) (st' := [.ref 27, .ref 27]) (fun _ => rfl) ?_
  obtain ⟨v1, hv1, hf⟩ := ob hf
  refine t_cv (as := []) (st := [.ref 27]) (rfl : mfetch 50 2 = some (2, .invokevirtual 152, 3, 51, 0, 0)) rfl rfl rfl rfl rfl (ok_T_placeOfNext hv1) ?_
  obtain ⟨s1, hs1, hf⟩ := ob hf
  refine t_pi (rfl : mfetch 50 5 = some (5, .putfield 64, 3, 3, 7, 0)) rfl rfl rfl rfl hs1 ?_
  refine mEnds.stp 2 (pc' := 10) (l' := [some (.ref 27)]) (st' := [.ref 27, .ref 27]) (fun _ => rfl) ?_
  refine t_gi (rfl : mfetch 50 10 = some (10, .getfield 64, 3, 3, 7, 0)) rfl rfl ?_
  obtain ⟨s2, hs2, hf⟩ := ob hf
  refine t_pi (rfl : mfetch 50 13 = some (13, .putfield 38, 3, 3, 8, 0)) rfl rfl rfl rfl hs2 ?_
  refine mEnds.stp 2 (pc' := 18) (l' := [some (.ref 27)]) (st' := [.ref 27, .ref 27]) (fun _ => rfl) ?_
  refine t_gi (rfl : mfetch 50 18 = some (18, .getfield 64, 3, 3, 7, 0)) rfl rfl ?_
  refine mEnds.stp 1 (pc' := 22) (l' := [some (.ref 27)]) (st' := [.ref 27, .int (s2 27 7), .ref 27]) (fun _ => rfl) ?_
  refine t_gi (rfl : mfetch 50 22 = some (22, .getfield 22, 3, 3, 1, 0)) rfl rfl ?_
  by_cases hc1 : s2 27 7 < s2 27 1
  · rw [if_pos hc1] at hf
    refine t_cF (rfl : mfetch 50 25 = some (25, .if_icmp .ge 18, 3, 0, 0, 0)) (k_ge' hc1) ?_
    refine mEnds.stp 1 (pc' := 29) (l' := [some (.ref 27)]) (st' := [.ref 27, .ref 27]) (fun _ => rfl) ?_
    refine t_gr (rfl : mfetch 50 29 = some (29, .getfield 11, 3, 3, 0, 0)) rfl rfl ?_
    refine mEnds.stp 1 (pc' := 33) (l' := [some (.ref 27)]) (st' := [.ref 27, .ref 28, .ref 27]) (fun _ => rfl) ?_
    refine t_gi (rfl : mfetch 50 33 = some (33, .getfield 64, 3, 3, 7, 0)) rfl rfl ?_
    obtain ⟨j1, hj1, hf⟩ := ob hf
    refine t_ba (rfl : mfetch 50 36 = some (36, .baload, 1, 0, 0, 0)) rfl rfl rfl hj1 ?_
    obtain ⟨v2, hv2, hf⟩ := ob hf
    refine t_cs (as := [.int (s2 28 j1)]) (st := [.ref 27]) (Or.inl rfl) (rfl : mfetch 50 37 = some (37, .invokestatic 155, 3, 52, 0, 0)) rfl rfl rfl (ok_T_sortOf hv2) ?_
    refine mEnds.stp 1 (pc' := 44) (l' := [some (.ref 27)]) (st' := [.int v2, .ref 27]) (fun _ => rfl) ?_
    refine mEnds.cut (l := [some (.ref 27)]) ⟨rfl, trivial⟩ ?_
    exact ok_T_nextToken_44 hf
  · rw [if_neg hc1] at hf
    refine t_cT (t := 43) (rfl : mfetch 50 25 = some (25, .if_icmp .ge 18, 3, 0, 0, 0)) rfl (k_ge hc1) ?_
    refine mEnds.stp 1 (pc' := 44) (l' := [some (.ref 27)]) (st' := [.int (nI 0), .ref 27]) (fun _ => rfl) ?_
    refine mEnds.cut (l := [some (.ref 27)]) ⟨rfl, trivial⟩ ?_
    exact ok_T_nextToken_44 hf
def T_endLine (s : sg) : Option sg :=
  (T_nextToken s).bind fun s1 =>
  if s1 27 6 = nI 3 then
    some s1
  else
    (T_fail (nI 2) (s1 27 7) s1).bind fun s2 =>
    some s2
set_option maxRecDepth 100000 in
theorem ok_T_endLine {s : sg} {rv : sg} (hf : T_endLine s = some rv) : mEnds [] 2 47 (0, [some (.ref 27)], [], hp shC s, 0, 0) (none, hp shC rv, 0, 0) := by
  unfold T_endLine at hf
  refine mEnds.stp 1 (pc' := 1) (l' := [some (.ref 27)]) (st' := [.ref 27]) (fun _ => rfl) ?_
  obtain ⟨s1, hs1, hf⟩ := ob hf
  refine t_cv (as := []) (st := []) (rfl : mfetch 47 1 = some (1, .invokevirtual 48, 3, 50, 0, 0)) rfl rfl rfl rfl rfl (ok_T_nextToken hs1) ?_
  refine mEnds.stp 1 (pc' := 5) (l' := [some (.ref 27)]) (st' := [.ref 27]) (fun _ => rfl) ?_
  refine t_gi (rfl : mfetch 47 5 = some (5, .getfield 51, 3, 3, 6, 0)) rfl rfl ?_
  refine mEnds.stp 1 (pc' := 9) (l' := [some (.ref 27)]) (st' := [.int (nI 3), .int (s1 27 6)]) (fun _ => rfl) ?_
  by_cases hc1 : s1 27 6 = nI 3
  · rw [if_pos hc1] at hf
    refine t_cT (t := 21) (rfl : mfetch 47 9 = some (9, .if_icmp .eq 12, 3, 0, 0, 0)) rfl (k_eq hc1) ?_
    cases hf; exact mEnds.rt (fun _ => rfl)
  · rw [if_neg hc1] at hf
    refine t_cF (rfl : mfetch 47 9 = some (9, .if_icmp .eq 12, 3, 0, 0, 0)) (k_eq' hc1) ?_
    refine mEnds.stp 3 (pc' := 15) (l' := [some (.ref 27)]) (st' := [.ref 27, .int (nI 2), .ref 27]) (fun _ => rfl) ?_
    refine t_gi (rfl : mfetch 47 15 = some (15, .getfield 64, 3, 3, 7, 0)) rfl rfl ?_
    obtain ⟨s2, hs2, hf⟩ := ob hf
    refine t_cv (as := [.int (nI 2), .int (s1 27 7)]) (st := []) (rfl : mfetch 47 18 = some (18, .invokevirtual 67, 3, 38, 0, 0)) rfl rfl rfl rfl rfl ((ok_T_fail hs2).deep 1) ?_
    cases hf; exact mEnds.rt (fun _ => rfl)
def T_tokenValue_7 (s : sg) : Nat → Int32 → Int32 → Option Int32
  | 0, _, _ => none
  | fu + 1, x1, x2 =>
  if x2 < s 27 8 then
    if s 27 6 = nI 2 then
      (midx x2 160).bind fun j1 =>
      T_tokenValue_7 s fu ((((nI 10) * x1) + (s 28 j1)) - (nI 48)) (x2 + (nI 1))
    else
      some x1
  else
    some x1
set_option maxRecDepth 100000 in
theorem ok_T_tokenValue_7 {s : sg} : ∀ (fu : Nat) (x1 : Int32) (x2 : Int32) (rv : Int32), T_tokenValue_7 s fu x1 x2 = some rv → mEnds [] 0 49 (7, [some (.ref 27), some (.int x1), some (.int x2)], [], hp shC s, 0, 0) (some (.int rv), hp shC s, 0, 0)
  | 0, _, _, _, hf => by cases hf
  | fu + 1, x1, x2, rv, hf => by
    rw [T_tokenValue_7] at hf
    refine mEnds.stp 2 (pc' := 9) (l' := [some (.ref 27), some (.int x1), some (.int x2)]) (st' := [.ref 27, .int x2]) (fun _ => rfl) ?_
    refine t_gi (rfl : mfetch 49 9 = some (9, .getfield 38, 3, 3, 8, 0)) rfl rfl ?_
    by_cases hc1 : x2 < s 27 8
    · rw [if_pos hc1] at hf
      refine t_cF (rfl : mfetch 49 12 = some (12, .if_icmp .ge 32, 3, 0, 0, 0)) (k_ge' hc1) ?_
      refine mEnds.stp 1 (pc' := 16) (l' := [some (.ref 27), some (.int x1), some (.int x2)]) (st' := [.ref 27]) (fun _ => rfl) ?_
      refine t_gi (rfl : mfetch 49 16 = some (16, .getfield 51, 3, 3, 6, 0)) rfl rfl ?_
      refine mEnds.stp 1 (pc' := 20) (l' := [some (.ref 27), some (.int x1), some (.int x2)]) (st' := [.int (nI 2), .int (s 27 6)]) (fun _ => rfl) ?_
      by_cases hc2 : s 27 6 = nI 2
      · rw [if_pos hc2] at hf
        refine t_cF (rfl : mfetch 49 20 = some (20, .if_icmp .ne 24, 3, 0, 0, 0)) (k_ne' hc2) ?_
        refine mEnds.stp 4 (pc' := 28) (l' := [some (.ref 27), some (.int x1), some (.int x2)]) (st' := [.ref 27, .int ((nI 10) * x1)]) (fun _ => rfl) ?_
        refine t_gr (rfl : mfetch 49 28 = some (28, .getfield 11, 3, 3, 0, 0)) rfl rfl ?_
        refine mEnds.stp 1 (pc' := 32) (l' := [some (.ref 27), some (.int x1), some (.int x2)]) (st' := [.int x2, .ref 28, .int ((nI 10) * x1)]) (fun _ => rfl) ?_
        obtain ⟨j1, hj1, hf⟩ := ob hf
        refine t_ba (rfl : mfetch 49 32 = some (32, .baload, 1, 0, 0, 0)) rfl rfl rfl hj1 ?_
        refine mEnds.stp 6 (pc' := 7) (l' := [some (.ref 27), some (.int ((((nI 10) * x1) + (s 28 j1)) - (nI 48))), some (.int (x2 + (nI 1)))]) (st' := []) (fun _ => rfl) ?_
        refine mEnds.cut (l := [some (.ref 27), some (.int ((((nI 10) * x1) + (s 28 j1)) - (nI 48))), some (.int (x2 + (nI 1)))]) ⟨rfl, ⟨rfl, ⟨rfl, trivial⟩⟩⟩ ?_
        exact ok_T_tokenValue_7 fu ((((nI 10) * x1) + (s 28 j1)) - (nI 48)) (x2 + (nI 1)) _ hf
      · rw [if_neg hc2] at hf
        refine t_cT (t := 44) (rfl : mfetch 49 20 = some (20, .if_icmp .ne 24, 3, 0, 0, 0)) rfl (k_ne hc2) ?_
        refine mEnds.stp 1 (pc' := 45) (l' := [some (.ref 27), some (.int x1), some (.int x2)]) (st' := [.int x1]) (fun _ => rfl) ?_
        cases hf; exact mEnds.rt (fun _ => rfl)
    · rw [if_neg hc1] at hf
      refine t_cT (t := 44) (rfl : mfetch 49 12 = some (12, .if_icmp .ge 32, 3, 0, 0, 0)) rfl (k_ge hc1) ?_
      refine mEnds.stp 1 (pc' := 45) (l' := [some (.ref 27), some (.int x1), some (.int x2)]) (st' := [.int x1]) (fun _ => rfl) ?_
      cases hf; exact mEnds.rt (fun _ => rfl)
def T_tokenValue (s : sg) : Option Int32 :=
  T_tokenValue_7 s FU (nI 0) (s 27 7)
set_option maxRecDepth 100000 in
theorem ok_T_tokenValue {s : sg} {rv : Int32} (hf : T_tokenValue s = some rv) : mEnds [] 0 49 (0, [some (.ref 27), none, none], [], hp shC s, 0, 0) (some (.int rv), hp shC s, 0, 0) := by
  unfold T_tokenValue at hf
  refine mEnds.stp 3 (pc' := 3) (l' := [some (.ref 27), some (.int (nI 0)), none]) (st' := [.ref 27]) (fun _ => rfl) ?_
  refine t_gi (rfl : mfetch 49 3 = some (3, .getfield 64, 3, 3, 7, 0)) rfl rfl ?_
  refine mEnds.stp 1 (pc' := 7) (l' := [some (.ref 27), some (.int (nI 0)), some (.int (s 27 7))]) (st' := []) (fun _ => rfl) ?_
  refine mEnds.cut (l := [some (.ref 27), some (.int (nI 0)), some (.int (s 27 7))]) ⟨rfl, ⟨rfl, ⟨rfl, trivial⟩⟩⟩ ?_
  exact ok_T_tokenValue_7 FU (nI 0) (s 27 7) _ hf
def T_nextNumber_43 (x2 : Int32) (s : sg) : Option (Int32 × sg) :=
  if s 27 3 = 0 then
    some (x2, s)
  else
    some (nI 0, s)
set_option maxRecDepth 100000 in
theorem ok_T_nextNumber_43 {x2 : Int32} {s : sg} {rv : (Int32 × sg)} (hf : T_nextNumber_43 x2 s = some rv) : mEnds [] 2 48 (43, [some (.ref 27), none, some (.int x2)], [], hp shC s, 0, 0) (some (.int rv.1), hp shC rv.2, 0, 0) := by
  unfold T_nextNumber_43 at hf
  refine mEnds.stp 1 (pc' := 44) (l' := [some (.ref 27), none, some (.int x2)]) (st' := [.ref 27]) (fun _ => rfl) ?_
  refine t_gi (rfl : mfetch 48 44 = some (44, .getfield 29, 3, 3, 3, 0)) rfl rfl ?_
  by_cases hc1 : s 27 3 = 0
  · rw [if_pos hc1] at hf
    refine t_jF (rfl : mfetch 48 47 = some (47, .ifCond .ne 7, 3, 0, 0, 0)) (k_ne' hc1) ?_
    refine mEnds.stp 2 (pc' := 55) (l' := [some (.ref 27), none, some (.int x2)]) (st' := [.int x2]) (fun _ => rfl) ?_
    exact mEnds.rti (Option.some.inj hf) (fun _ => rfl)
  · rw [if_neg hc1] at hf
    refine t_jT (t := 54) (rfl : mfetch 48 47 = some (47, .ifCond .ne 7, 3, 0, 0, 0)) rfl (k_ne hc1) ?_
    refine mEnds.stp 1 (pc' := 55) (l' := [some (.ref 27), none, some (.int x2)]) (st' := [.int (nI 0)]) (fun _ => rfl) ?_
    exact mEnds.rti (Option.some.inj hf) (fun _ => rfl)
def T_nextNumber (x1 : Int32) (s : sg) : Option (Int32 × sg) :=
  (T_nextToken s).bind fun s1 =>
  (T_tokenValue s1).bind fun v2 =>
  if s1 27 6 = nI 2 then
    if x1 < v2 then
      (T_fail (nI 3) (s1 27 7) s1).bind fun s2 =>
      T_nextNumber_43 v2 s2
    else
      T_nextNumber_43 v2 s1
  else
    (T_fail (nI 2) (s1 27 7) s1).bind fun s3 =>
    T_nextNumber_43 v2 s3
set_option maxRecDepth 100000 in
theorem ok_T_nextNumber {x1 : Int32} {s : sg} {rv : (Int32 × sg)} (hf : T_nextNumber x1 s = some rv) : mEnds [] 2 48 (0, [some (.ref 27), some (.int x1), none], [], hp shC s, 0, 0) (some (.int rv.1), hp shC rv.2, 0, 0) := by
  unfold T_nextNumber at hf
  refine mEnds.stp 1 (pc' := 1) (l' := [some (.ref 27), some (.int x1), none]) (st' := [.ref 27]) (fun _ => rfl) ?_
  obtain ⟨s1, hs1, hf⟩ := ob hf
  refine t_cv (as := []) (st := []) (rfl : mfetch 48 1 = some (1, .invokevirtual 48, 3, 50, 0, 0)) rfl rfl rfl rfl rfl (ok_T_nextToken hs1) ?_
  refine mEnds.stp 1 (pc' := 5) (l' := [some (.ref 27), some (.int x1), none]) (st' := [.ref 27]) (fun _ => rfl) ?_
  obtain ⟨v2, hv2, hf⟩ := ob hf
  refine t_cv (as := []) (st := []) (rfl : mfetch 48 5 = some (5, .invokevirtual 146, 3, 49, 0, 0)) rfl rfl rfl rfl rfl ((ok_T_tokenValue hv2).deep 1) ?_
  refine mEnds.stp 2 (pc' := 10) (l' := [some (.ref 27), some (.int x1), some (.int v2)]) (st' := [.ref 27]) (fun _ => rfl) ?_
  refine t_gi (rfl : mfetch 48 10 = some (10, .getfield 51, 3, 3, 6, 0)) rfl rfl ?_
  refine mEnds.stp 1 (pc' := 14) (l' := [some (.ref 27), some (.int x1), some (.int v2)]) (st' := [.int (nI 2), .int (s1 27 6)]) (fun _ => rfl) ?_
  by_cases hc1 : s1 27 6 = nI 2
  · rw [if_pos hc1] at hf
    refine t_cT (t := 29) (rfl : mfetch 48 14 = some (14, .if_icmp .eq 15, 3, 0, 0, 0)) rfl (k_eq hc1) ?_
    refine mEnds.stp 2 (pc' := 31) (l' := [some (.ref 27), some (.int x1), some (.int v2)]) (st' := [.int x1, .int v2]) (fun _ => rfl) ?_
    by_cases hc2 : x1 < v2
    · rw [if_pos hc2] at hf
      refine t_cF (rfl : mfetch 48 31 = some (31, .if_icmp .le 12, 3, 0, 0, 0)) (k_le' hc2) ?_
      refine mEnds.stp 3 (pc' := 37) (l' := [some (.ref 27), some (.int x1), some (.int v2)]) (st' := [.ref 27, .int (nI 3), .ref 27]) (fun _ => rfl) ?_
      refine t_gi (rfl : mfetch 48 37 = some (37, .getfield 64, 3, 3, 7, 0)) rfl rfl ?_
      obtain ⟨s2, hs2, hf⟩ := ob hf
      refine t_cv (as := [.int (nI 3), .int (s1 27 7)]) (st := []) (rfl : mfetch 48 40 = some (40, .invokevirtual 67, 3, 38, 0, 0)) rfl rfl rfl rfl rfl ((ok_T_fail hs2).deep 1) ?_
      refine mEnds.cut (l := [some (.ref 27), none, some (.int v2)]) ⟨rfl, ⟨rfl, trivial⟩⟩ ?_
      exact ok_T_nextNumber_43 hf
    · rw [if_neg hc2] at hf
      refine t_cT (t := 43) (rfl : mfetch 48 31 = some (31, .if_icmp .le 12, 3, 0, 0, 0)) rfl (k_le hc2) ?_
      refine mEnds.cut (l := [some (.ref 27), none, some (.int v2)]) ⟨rfl, ⟨rfl, trivial⟩⟩ ?_
      exact ok_T_nextNumber_43 hf
  · rw [if_neg hc1] at hf
    refine t_cF (rfl : mfetch 48 14 = some (14, .if_icmp .eq 15, 3, 0, 0, 0)) (k_eq' hc1) ?_
    refine mEnds.stp 3 (pc' := 20) (l' := [some (.ref 27), some (.int x1), some (.int v2)]) (st' := [.ref 27, .int (nI 2), .ref 27]) (fun _ => rfl) ?_
    refine t_gi (rfl : mfetch 48 20 = some (20, .getfield 64, 3, 3, 7, 0)) rfl rfl ?_
    obtain ⟨s3, hs3, hf⟩ := ob hf
    refine t_cv (as := [.int (nI 2), .int (s1 27 7)]) (st := []) (rfl : mfetch 48 23 = some (23, .invokevirtual 67, 3, 38, 0, 0)) rfl rfl rfl rfl rfl ((ok_T_fail hs3).deep 1) ?_
    refine mEnds.stp 1 (pc' := 43) (l' := [some (.ref 27), some (.int x1), some (.int v2)]) (st' := []) (fun _ => rfl) ?_
    refine mEnds.cut (l := [some (.ref 27), none, some (.int v2)]) ⟨rfl, ⟨rfl, trivial⟩⟩ ?_
    exact ok_T_nextNumber_43 hf
def T_tellRoom (s : sg) : Option sg :=
  if s 29 0 < nI 6 then
    (some (up s 29 0 ((s 29 0) + (nI 1)))).bind fun s1 =>
    (T_nextNumber (nI 99) s1).bind fun v1 =>
    (midx (s 29 0) 6).bind fun j1 =>
    (some (up v1.2 30 j1 v1.1)).bind fun s2 =>
    (T_nextNumber (nI 9) s2).bind fun v2 =>
    (midx (s 29 0) 6).bind fun j2 =>
    (some (up v2.2 31 j2 v2.1)).bind fun s3 =>
    (T_nextNumber (nI 9) s3).bind fun v3 =>
    (midx (s 29 0) 6).bind fun j3 =>
    (some (up v3.2 32 j3 v3.1)).bind fun s4 =>
    (T_endLine s4).bind fun s5 =>
    some s5
  else
    (T_fail (nI 5) (s 27 7) s).bind fun s6 =>
    some s6
set_option maxRecDepth 100000 in
theorem ok_T_tellRoom {s : sg} {rv : sg} (hf : T_tellRoom s = some rv) : mEnds [] 3 42 (0, [some (.ref 27), none], [], hp shC s, 0, 0) (none, hp shC rv, 0, 0) := by
  unfold T_tellRoom at hf
  refine mEnds.stp 1 (pc' := 1) (l' := [some (.ref 27), none]) (st' := [.ref 27]) (fun _ => rfl) ?_
  refine t_gr (rfl : mfetch 42 1 = some (1, .getfield 18, 3, 3, 2, 0)) rfl rfl ?_
  refine t_gi (rfl : mfetch 42 4 = some (4, .getfield 110, 3, 1, 0, 0)) rfl rfl ?_
  refine mEnds.stp 3 (pc' := 11) (l' := [some (.ref 27), some (.int (s 29 0))]) (st' := [.int (nI 6), .int (s 29 0)]) (fun _ => rfl) ?_
  by_cases hc1 : s 29 0 < nI 6
  · rw [if_pos hc1] at hf
    refine t_cT (t := 24) (rfl : mfetch 42 11 = some (11, .if_icmp .lt 13, 3, 0, 0, 0)) rfl (k_lt hc1) ?_
    refine mEnds.stp 1 (pc' := 25) (l' := [some (.ref 27), some (.int (s 29 0))]) (st' := [.ref 27]) (fun _ => rfl) ?_
    refine t_gr (rfl : mfetch 42 25 = some (25, .getfield 18, 3, 3, 2, 0)) rfl rfl ?_
    refine mEnds.stp 1 (pc' := 29) (l' := [some (.ref 27), some (.int (s 29 0))]) (st' := [.ref 29, .ref 29]) (fun _ => rfl) ?_
    refine t_gi (rfl : mfetch 42 29 = some (29, .getfield 110, 3, 1, 0, 0)) rfl rfl ?_
    refine mEnds.stp 2 (pc' := 34) (l' := [some (.ref 27), some (.int (s 29 0))]) (st' := [.int ((s 29 0) + (nI 1)), .ref 29]) (fun _ => rfl) ?_
    obtain ⟨s1, hs1, hf⟩ := ob hf
    refine t_pi (rfl : mfetch 42 34 = some (34, .putfield 110, 3, 1, 0, 0)) rfl rfl rfl rfl hs1 ?_
    refine mEnds.stp 1 (pc' := 38) (l' := [some (.ref 27), some (.int (s 29 0))]) (st' := [.ref 27]) (fun _ => rfl) ?_
    refine t_gr (rfl : mfetch 42 38 = some (38, .getfield 18, 3, 3, 2, 0)) rfl rfl ?_
    refine t_gr (rfl : mfetch 42 41 = some (41, .getfield 113, 3, 1, 5, 0)) rfl rfl ?_
    refine mEnds.stp 3 (pc' := 48) (l' := [some (.ref 27), some (.int (s 29 0))]) (st' := [.int (nI 99), .ref 27, .int (s 29 0), .ref 30]) (fun _ => rfl) ?_
    obtain ⟨v1, hv1, hf⟩ := ob hf
    refine t_cv (as := [.int (nI 99)]) (st := [.int (s 29 0), .ref 30]) (rfl : mfetch 42 48 = some (48, .invokevirtual 117, 3, 48, 0, 0)) rfl rfl rfl rfl rfl (ok_T_nextNumber hv1) ?_
    obtain ⟨j1, hj1, hf⟩ := ob hf
    obtain ⟨s2, hs2, hf⟩ := ob hf
    refine t_is (rfl : mfetch 42 51 = some (51, .iastore, 1, 0, 0, 0)) rfl rfl hj1 hs2 ?_
    refine mEnds.stp 1 (pc' := 53) (l' := [some (.ref 27), some (.int (s 29 0))]) (st' := [.ref 27]) (fun _ => rfl) ?_
    refine t_gr (rfl : mfetch 42 53 = some (53, .getfield 18, 3, 3, 2, 0)) rfl rfl ?_
    refine t_gr (rfl : mfetch 42 56 = some (56, .getfield 121, 3, 1, 6, 0)) rfl rfl ?_
    refine mEnds.stp 3 (pc' := 63) (l' := [some (.ref 27), some (.int (s 29 0))]) (st' := [.int (nI 9), .ref 27, .int (s 29 0), .ref 31]) (fun _ => rfl) ?_
    obtain ⟨v2, hv2, hf⟩ := ob hf
    refine t_cv (as := [.int (nI 9)]) (st := [.int (s 29 0), .ref 31]) (rfl : mfetch 42 63 = some (63, .invokevirtual 117, 3, 48, 0, 0)) rfl rfl rfl rfl rfl (ok_T_nextNumber hv2) ?_
    obtain ⟨j2, hj2, hf⟩ := ob hf
    obtain ⟨s3, hs3, hf⟩ := ob hf
    refine t_is (rfl : mfetch 42 66 = some (66, .iastore, 1, 0, 0, 0)) rfl rfl hj2 hs3 ?_
    refine mEnds.stp 1 (pc' := 68) (l' := [some (.ref 27), some (.int (s 29 0))]) (st' := [.ref 27]) (fun _ => rfl) ?_
    refine t_gr (rfl : mfetch 42 68 = some (68, .getfield 18, 3, 3, 2, 0)) rfl rfl ?_
    refine t_gr (rfl : mfetch 42 71 = some (71, .getfield 124, 3, 1, 7, 0)) rfl rfl ?_
    refine mEnds.stp 3 (pc' := 78) (l' := [some (.ref 27), some (.int (s 29 0))]) (st' := [.int (nI 9), .ref 27, .int (s 29 0), .ref 32]) (fun _ => rfl) ?_
    obtain ⟨v3, hv3, hf⟩ := ob hf
    refine t_cv (as := [.int (nI 9)]) (st := [.int (s 29 0), .ref 32]) (rfl : mfetch 42 78 = some (78, .invokevirtual 117, 3, 48, 0, 0)) rfl rfl rfl rfl rfl (ok_T_nextNumber hv3) ?_
    obtain ⟨j3, hj3, hf⟩ := ob hf
    obtain ⟨s4, hs4, hf⟩ := ob hf
    refine t_is (rfl : mfetch 42 81 = some (81, .iastore, 1, 0, 0, 0)) rfl rfl hj3 hs4 ?_
    refine mEnds.stp 1 (pc' := 83) (l' := [some (.ref 27), some (.int (s 29 0))]) (st' := [.ref 27]) (fun _ => rfl) ?_
    obtain ⟨s5, hs5, hf⟩ := ob hf
    refine t_cv (as := []) (st := []) (rfl : mfetch 42 83 = some (83, .invokevirtual 127, 3, 47, 0, 0)) rfl rfl rfl rfl rfl (ok_T_endLine hs5) ?_
    cases hf; exact mEnds.rt (fun _ => rfl)
  · rw [if_neg hc1] at hf
    refine t_cF (rfl : mfetch 42 11 = some (11, .if_icmp .lt 13, 3, 0, 0, 0)) (k_lt' hc1) ?_
    refine mEnds.stp 3 (pc' := 17) (l' := [some (.ref 27), some (.int (s 29 0))]) (st' := [.ref 27, .int (nI 5), .ref 27]) (fun _ => rfl) ?_
    refine t_gi (rfl : mfetch 42 17 = some (17, .getfield 64, 3, 3, 7, 0)) rfl rfl ?_
    obtain ⟨s6, hs6, hf⟩ := ob hf
    refine t_cv (as := [.int (nI 5), .int (s 27 7)]) (st := []) (rfl : mfetch 42 20 = some (20, .invokevirtual 67, 3, 38, 0, 0)) rfl rfl rfl rfl rfl ((ok_T_fail hs6).deep 2) ?_
    cases hf; exact mEnds.rt (fun _ => rfl)
def T_tellTongue_26 (x1 : Int32) (x2 : Int32) (s : sg) : Option sg :=
  (midx x2 6).bind fun j1 =>
  (some (up s 33 j1 x1)).bind fun s1 =>
  (T_nextNumber (nI 99) s1).bind fun v1 =>
  (midx x2 6).bind fun j2 =>
  (some (up v1.2 34 j2 v1.1)).bind fun s2 =>
  (T_endLine s2).bind fun s3 =>
  some s3
set_option maxRecDepth 100000 in
theorem ok_T_tellTongue_26 {x1 : Int32} {x2 : Int32} {s : sg} {rv : sg} (hf : T_tellTongue_26 x1 x2 s = some rv) : mEnds [] 3 43 (26, [some (.ref 27), some (.int x1), some (.int x2)], [], hp shC s, 0, 0) (none, hp shC rv, 0, 0) := by
  unfold T_tellTongue_26 at hf
  refine mEnds.stp 1 (pc' := 27) (l' := [some (.ref 27), some (.int x1), some (.int x2)]) (st' := [.ref 27]) (fun _ => rfl) ?_
  refine t_gr (rfl : mfetch 43 27 = some (27, .getfield 18, 3, 3, 2, 0)) rfl rfl ?_
  refine t_gr (rfl : mfetch 43 30 = some (30, .getfield 134, 3, 1, 8, 0)) rfl rfl ?_
  refine mEnds.stp 2 (pc' := 35) (l' := [some (.ref 27), some (.int x1), some (.int x2)]) (st' := [.int x1, .int x2, .ref 33]) (fun _ => rfl) ?_
  obtain ⟨j1, hj1, hf⟩ := ob hf
  obtain ⟨s1, hs1, hf⟩ := ob hf
  refine t_is (rfl : mfetch 43 35 = some (35, .iastore, 1, 0, 0, 0)) rfl rfl hj1 hs1 ?_
  refine mEnds.stp 1 (pc' := 37) (l' := [some (.ref 27), some (.int x1), some (.int x2)]) (st' := [.ref 27]) (fun _ => rfl) ?_
  refine t_gr (rfl : mfetch 43 37 = some (37, .getfield 18, 3, 3, 2, 0)) rfl rfl ?_
  refine t_gr (rfl : mfetch 43 40 = some (40, .getfield 137, 3, 1, 9, 0)) rfl rfl ?_
  refine mEnds.stp 3 (pc' := 47) (l' := [some (.ref 27), some (.int x1), some (.int x2)]) (st' := [.int (nI 99), .ref 27, .int x2, .ref 34]) (fun _ => rfl) ?_
  obtain ⟨v1, hv1, hf⟩ := ob hf
  refine t_cv (as := [.int (nI 99)]) (st := [.int x2, .ref 34]) (rfl : mfetch 43 47 = some (47, .invokevirtual 117, 3, 48, 0, 0)) rfl rfl rfl rfl rfl (ok_T_nextNumber hv1) ?_
  obtain ⟨j2, hj2, hf⟩ := ob hf
  obtain ⟨s2, hs2, hf⟩ := ob hf
  refine t_is (rfl : mfetch 43 50 = some (50, .iastore, 1, 0, 0, 0)) rfl rfl hj2 hs2 ?_
  refine mEnds.stp 1 (pc' := 52) (l' := [some (.ref 27), some (.int x1), some (.int x2)]) (st' := [.ref 27]) (fun _ => rfl) ?_
  obtain ⟨s3, hs3, hf⟩ := ob hf
  refine t_cv (as := []) (st := []) (rfl : mfetch 43 52 = some (52, .invokevirtual 127, 3, 47, 0, 0)) rfl rfl rfl rfl rfl (ok_T_endLine hs3) ?_
  cases hf; exact mEnds.rt (fun _ => rfl)
def T_tellTongue (x1 : Int32) (s : sg) : Option sg :=
  (T_nextNumber (nI 5) s).bind fun v1 =>
  (H_hasTongue 29 v1.1 v1.2).bind fun v2 =>
  if v2 = 0 then
    T_tellTongue_26 x1 v1.1 v1.2
  else
    (T_fail (nI 4) (v1.2 27 7) v1.2).bind fun s1 =>
    T_tellTongue_26 x1 v1.1 s1
set_option maxRecDepth 100000 in
theorem ok_T_tellTongue {x1 : Int32} {s : sg} {rv : sg} (hf : T_tellTongue x1 s = some rv) : mEnds [] 3 43 (0, [some (.ref 27), some (.int x1), none], [], hp shC s, 0, 0) (none, hp shC rv, 0, 0) := by
  unfold T_tellTongue at hf
  refine mEnds.stp 2 (pc' := 2) (l' := [some (.ref 27), some (.int x1), none]) (st' := [.int (nI 5), .ref 27]) (fun _ => rfl) ?_
  obtain ⟨v1, hv1, hf⟩ := ob hf
  refine t_cv (as := [.int (nI 5)]) (st := []) (rfl : mfetch 43 2 = some (2, .invokevirtual 117, 3, 48, 0, 0)) rfl rfl rfl rfl rfl (ok_T_nextNumber hv1) ?_
  refine mEnds.stp 2 (pc' := 7) (l' := [some (.ref 27), some (.int x1), some (.int v1.1)]) (st' := [.ref 27]) (fun _ => rfl) ?_
  refine t_gr (rfl : mfetch 43 7 = some (7, .getfield 18, 3, 3, 2, 0)) rfl rfl ?_
  refine mEnds.stp 1 (pc' := 11) (l' := [some (.ref 27), some (.int x1), some (.int v1.1)]) (st' := [.int v1.1, .ref 29]) (fun _ => rfl) ?_
  obtain ⟨v2, hv2, hf⟩ := ob hf
  refine t_cv (as := [.int v1.1]) (st := []) (rfl : mfetch 43 11 = some (11, .invokevirtual 130, 3, 10, 0, 0)) rfl rfl rfl rfl rfl ((ok_H_hasTongue isH_29 hv2).deep 2) ?_
  by_cases hc1 : v2 = 0
  · rw [if_pos hc1] at hf
    refine t_jT (t := 26) (rfl : mfetch 43 14 = some (14, .ifCond .eq 12, 3, 0, 0, 0)) rfl (k_eq hc1) ?_
    refine mEnds.cut (l := [some (.ref 27), some (.int x1), some (.int v1.1)]) ⟨rfl, ⟨rfl, ⟨rfl, trivial⟩⟩⟩ ?_
    exact ok_T_tellTongue_26 hf
  · rw [if_neg hc1] at hf
    refine t_jF (rfl : mfetch 43 14 = some (14, .ifCond .eq 12, 3, 0, 0, 0)) (k_eq' hc1) ?_
    refine mEnds.stp 3 (pc' := 20) (l' := [some (.ref 27), some (.int x1), some (.int v1.1)]) (st' := [.ref 27, .int (nI 4), .ref 27]) (fun _ => rfl) ?_
    refine t_gi (rfl : mfetch 43 20 = some (20, .getfield 64, 3, 3, 7, 0)) rfl rfl ?_
    obtain ⟨s1, hs1, hf⟩ := ob hf
    refine t_cv (as := [.int (nI 4), .int (v1.2 27 7)]) (st := []) (rfl : mfetch 43 23 = some (23, .invokevirtual 67, 3, 38, 0, 0)) rfl rfl rfl rfl rfl ((ok_T_fail hs1).deep 2) ?_
    refine mEnds.cut (l := [some (.ref 27), some (.int x1), some (.int v1.1)]) ⟨rfl, ⟨rfl, ⟨rfl, trivial⟩⟩⟩ ?_
    exact ok_T_tellTongue_26 hf
def T_tellWall_27 (x1 : Int32) (s : sg) : Option sg :=
  (some (up s 27 10 ((s 27 10) ||| ((nI 1) <<< (x1 &&& 31))))).bind fun s1 =>
  (T_nextNumber (nI 9) s1).bind fun v1 =>
  (midx x1 5).bind fun j1 =>
  (some (up v1.2 35 j1 v1.1)).bind fun s2 =>
  (T_endLine s2).bind fun s3 =>
  some s3
set_option maxRecDepth 100000 in
theorem ok_T_tellWall_27 {x1 : Int32} {s : sg} {rv : sg} (hf : T_tellWall_27 x1 s = some rv) : mEnds [] 3 44 (27, [some (.ref 27), some (.int x1)], [], hp shC s, 0, 0) (none, hp shC rv, 0, 0) := by
  unfold T_tellWall_27 at hf
  refine mEnds.stp 2 (pc' := 29) (l' := [some (.ref 27), some (.int x1)]) (st' := [.ref 27, .ref 27]) (fun _ => rfl) ?_
  refine t_gi (rfl : mfetch 44 29 = some (29, .getfield 45, 3, 3, 10, 0)) rfl rfl ?_
  refine mEnds.stp 4 (pc' := 36) (l' := [some (.ref 27), some (.int x1)]) (st' := [.int ((s 27 10) ||| ((nI 1) <<< (x1 &&& 31))), .ref 27]) (fun _ => rfl) ?_
  obtain ⟨s1, hs1, hf⟩ := ob hf
  refine t_pi (rfl : mfetch 44 36 = some (36, .putfield 45, 3, 3, 10, 0)) rfl rfl rfl rfl hs1 ?_
  refine mEnds.stp 1 (pc' := 40) (l' := [some (.ref 27), some (.int x1)]) (st' := [.ref 27]) (fun _ => rfl) ?_
  refine t_gr (rfl : mfetch 44 40 = some (40, .getfield 18, 3, 3, 2, 0)) rfl rfl ?_
  refine t_gr (rfl : mfetch 44 43 = some (43, .getfield 140, 3, 1, 10, 0)) rfl rfl ?_
  refine mEnds.stp 3 (pc' := 50) (l' := [some (.ref 27), some (.int x1)]) (st' := [.int (nI 9), .ref 27, .int x1, .ref 35]) (fun _ => rfl) ?_
  obtain ⟨v1, hv1, hf⟩ := ob hf
  refine t_cv (as := [.int (nI 9)]) (st := [.int x1, .ref 35]) (rfl : mfetch 44 50 = some (50, .invokevirtual 117, 3, 48, 0, 0)) rfl rfl rfl rfl rfl (ok_T_nextNumber hv1) ?_
  obtain ⟨j1, hj1, hf⟩ := ob hf
  obtain ⟨s2, hs2, hf⟩ := ob hf
  refine t_is (rfl : mfetch 44 53 = some (53, .iastore, 1, 0, 0, 0)) rfl rfl hj1 hs2 ?_
  refine mEnds.stp 1 (pc' := 55) (l' := [some (.ref 27), some (.int x1)]) (st' := [.ref 27]) (fun _ => rfl) ?_
  obtain ⟨s3, hs3, hf⟩ := ob hf
  refine t_cv (as := []) (st := []) (rfl : mfetch 44 55 = some (55, .invokevirtual 127, 3, 47, 0, 0)) rfl rfl rfl rfl rfl (ok_T_endLine hs3) ?_
  cases hf; exact mEnds.rt (fun _ => rfl)
def T_tellWall (s : sg) : Option sg :=
  (T_nextNumber (nI 4) s).bind fun v1 =>
  if ((v1.2 27 10) >>> (v1.1 &&& 31)) &&& (nI 1) = nI 1 then
    (T_fail (nI 4) (v1.2 27 7) v1.2).bind fun s1 =>
    T_tellWall_27 v1.1 s1
  else
    T_tellWall_27 v1.1 v1.2
set_option maxRecDepth 100000 in
theorem ok_T_tellWall {s : sg} {rv : sg} (hf : T_tellWall s = some rv) : mEnds [] 3 44 (0, [some (.ref 27), none], [], hp shC s, 0, 0) (none, hp shC rv, 0, 0) := by
  unfold T_tellWall at hf
  refine mEnds.stp 2 (pc' := 2) (l' := [some (.ref 27), none]) (st' := [.int (nI 4), .ref 27]) (fun _ => rfl) ?_
  obtain ⟨v1, hv1, hf⟩ := ob hf
  refine t_cv (as := [.int (nI 4)]) (st := []) (rfl : mfetch 44 2 = some (2, .invokevirtual 117, 3, 48, 0, 0)) rfl rfl rfl rfl rfl (ok_T_nextNumber hv1) ?_
  refine mEnds.stp 2 (pc' := 7) (l' := [some (.ref 27), some (.int v1.1)]) (st' := [.ref 27]) (fun _ => rfl) ?_
  refine t_gi (rfl : mfetch 44 7 = some (7, .getfield 45, 3, 3, 10, 0)) rfl rfl ?_
  refine mEnds.stp 5 (pc' := 15) (l' := [some (.ref 27), some (.int v1.1)]) (st' := [.int (nI 1), .int (((v1.2 27 10) >>> (v1.1 &&& 31)) &&& (nI 1))]) (fun _ => rfl) ?_
  by_cases hc1 : ((v1.2 27 10) >>> (v1.1 &&& 31)) &&& (nI 1) = nI 1
  · rw [if_pos hc1] at hf
    refine t_cF (rfl : mfetch 44 15 = some (15, .if_icmp .ne 12, 3, 0, 0, 0)) (k_ne' hc1) ?_
    refine mEnds.stp 3 (pc' := 21) (l' := [some (.ref 27), some (.int v1.1)]) (st' := [.ref 27, .int (nI 4), .ref 27]) (fun _ => rfl) ?_
    refine t_gi (rfl : mfetch 44 21 = some (21, .getfield 64, 3, 3, 7, 0)) rfl rfl ?_
    obtain ⟨s1, hs1, hf⟩ := ob hf
    refine t_cv (as := [.int (nI 4), .int (v1.2 27 7)]) (st := []) (rfl : mfetch 44 24 = some (24, .invokevirtual 67, 3, 38, 0, 0)) rfl rfl rfl rfl rfl ((ok_T_fail hs1).deep 2) ?_
    refine mEnds.cut (l := [some (.ref 27), some (.int v1.1)]) ⟨rfl, ⟨rfl, trivial⟩⟩ ?_
    exact ok_T_tellWall_27 hf
  · rw [if_neg hc1] at hf
    refine t_cT (t := 27) (rfl : mfetch 44 15 = some (15, .if_icmp .ne 12, 3, 0, 0, 0)) rfl (k_ne hc1) ?_
    refine mEnds.cut (l := [some (.ref 27), some (.int v1.1)]) ⟨rfl, ⟨rfl, trivial⟩⟩ ?_
    exact ok_T_tellWall_27 hf
def T_refuseNinth_37 (x1 : Int32) (s : sg) : Option sg :=
  (T_fail (nI 5) x1 s).bind fun s1 =>
  some s1
set_option maxRecDepth 100000 in
theorem ok_T_refuseNinth_37 {x1 : Int32} {s : sg} {rv : sg} (hf : T_refuseNinth_37 x1 s = some rv) : mEnds [] 1 46 (37, [some (.ref 27), some (.int x1), none], [], hp shC s, 0, 0) (none, hp shC rv, 0, 0) := by
  unfold T_refuseNinth_37 at hf
  refine mEnds.stp 3 (pc' := 40) (l' := [some (.ref 27), some (.int x1), none]) (st' := [.int x1, .int (nI 5), .ref 27]) (fun _ => rfl) ?_
  obtain ⟨s1, hs1, hf⟩ := ob hf
  refine t_cv (as := [.int (nI 5), .int x1]) (st := []) (rfl : mfetch 46 40 = some (40, .invokevirtual 67, 3, 38, 0, 0)) rfl rfl rfl rfl rfl (ok_T_fail hs1) ?_
  cases hf; exact mEnds.rt (fun _ => rfl)
def T_refuseNinth_26 (x1 : Int32) (y0 : Int32) (s : sg) : Option sg :=
  if y0 = nI 2 then
    T_refuseNinth_37 x1 s
  else
    if y0 = nI 1 then
      T_refuseNinth_37 x1 s
    else
      some s
set_option maxRecDepth 100000 in
theorem ok_T_refuseNinth_26 {x1 : Int32} {y0 : Int32} {s : sg} {rv : sg} (hf : T_refuseNinth_26 x1 y0 s = some rv) : mEnds [] 1 46 (26, [some (.ref 27), some (.int x1), none], [.int y0], hp shC s, 0, 0) (none, hp shC rv, 0, 0) := by
  unfold T_refuseNinth_26 at hf
  refine mEnds.stp 3 (pc' := 29) (l' := [some (.ref 27), some (.int x1), some (.int y0)]) (st' := [.int (nI 2), .int y0]) (fun _ => rfl) ?_
  by_cases hc1 : y0 = nI 2
  · rw [if_pos hc1] at hf
    refine t_cT (t := 37) (rfl : mfetch 46 29 = some (29, .if_icmp .eq 8, 3, 0, 0, 0)) rfl (k_eq hc1) ?_
    refine mEnds.cut (l := [some (.ref 27), some (.int x1), none]) ⟨rfl, ⟨rfl, trivial⟩⟩ ?_
    exact ok_T_refuseNinth_37 hf
  · rw [if_neg hc1] at hf
    refine t_cF (rfl : mfetch 46 29 = some (29, .if_icmp .eq 8, 3, 0, 0, 0)) (k_eq' hc1) ?_
    refine mEnds.stp 2 (pc' := 34) (l' := [some (.ref 27), some (.int x1), some (.int y0)]) (st' := [.int (nI 1), .int y0]) (fun _ => rfl) ?_
    by_cases hc2 : y0 = nI 1
    · rw [if_pos hc2] at hf
      refine t_cF (rfl : mfetch 46 34 = some (34, .if_icmp .ne 9, 3, 0, 0, 0)) (k_ne' hc2) ?_
      refine mEnds.cut (l := [some (.ref 27), some (.int x1), none]) ⟨rfl, ⟨rfl, trivial⟩⟩ ?_
      exact ok_T_refuseNinth_37 hf
    · rw [if_neg hc2] at hf
      refine t_cT (t := 43) (rfl : mfetch 46 34 = some (34, .if_icmp .ne 9, 3, 0, 0, 0)) rfl (k_ne hc2) ?_
      cases hf; exact mEnds.rt (fun _ => rfl)
def T_refuseNinth (s : sg) : Option sg :=
  (T_placeOfNext s).bind fun v1 =>
  if v1 < s 27 1 then
    (midx v1 160).bind fun j1 =>
    (T_sortOf (s 28 j1) s).bind fun v2 =>
    T_refuseNinth_26 v1 v2 s
  else
    T_refuseNinth_26 v1 (nI 0) s
set_option maxRecDepth 100000 in
theorem ok_T_refuseNinth {s : sg} {rv : sg} (hf : T_refuseNinth s = some rv) : mEnds [] 1 46 (0, [some (.ref 27), none, none], [], hp shC s, 0, 0) (none, hp shC rv, 0, 0) := by
  unfold T_refuseNinth at hf
  refine mEnds.stp 1 (pc' := 1) (l' := [some (.ref 27), none, none]) (st' := [.ref 27]) (fun _ => rfl) ?_
  obtain ⟨v1, hv1, hf⟩ := ob hf
  refine t_cv (as := []) (st := []) (rfl : mfetch 46 1 = some (1, .invokevirtual 152, 3, 51, 0, 0)) rfl rfl rfl rfl rfl (ok_T_placeOfNext hv1) ?_
  refine mEnds.stp 3 (pc' := 7) (l' := [some (.ref 27), some (.int v1), none]) (st' := [.ref 27, .int v1]) (fun _ => rfl) ?_
  refine t_gi (rfl : mfetch 46 7 = some (7, .getfield 22, 3, 3, 1, 0)) rfl rfl ?_
  by_cases hc1 : v1 < s 27 1
  · rw [if_pos hc1] at hf
    refine t_cF (rfl : mfetch 46 10 = some (10, .if_icmp .ge 15, 3, 0, 0, 0)) (k_ge' hc1) ?_
    refine mEnds.stp 1 (pc' := 14) (l' := [some (.ref 27), some (.int v1), none]) (st' := [.ref 27]) (fun _ => rfl) ?_
    refine t_gr (rfl : mfetch 46 14 = some (14, .getfield 11, 3, 3, 0, 0)) rfl rfl ?_
    refine mEnds.stp 1 (pc' := 18) (l' := [some (.ref 27), some (.int v1), none]) (st' := [.int v1, .ref 28]) (fun _ => rfl) ?_
    obtain ⟨j1, hj1, hf⟩ := ob hf
    refine t_ba (rfl : mfetch 46 18 = some (18, .baload, 1, 0, 0, 0)) rfl rfl rfl hj1 ?_
    obtain ⟨v2, hv2, hf⟩ := ob hf
    refine t_cs (as := [.int (s 28 j1)]) (st := []) (Or.inl rfl) (rfl : mfetch 46 19 = some (19, .invokestatic 155, 3, 52, 0, 0)) rfl rfl rfl (ok_T_sortOf hv2) ?_
    refine mEnds.stp 1 (pc' := 26) (l' := [some (.ref 27), some (.int v1), none]) (st' := [.int v2]) (fun _ => rfl) ?_
    refine mEnds.cut (l := [some (.ref 27), some (.int v1), none]) ⟨rfl, ⟨rfl, trivial⟩⟩ ?_
    exact ok_T_refuseNinth_26 hf
  · rw [if_neg hc1] at hf
    refine t_cT (t := 25) (rfl : mfetch 46 10 = some (10, .if_icmp .ge 15, 3, 0, 0, 0)) rfl (k_ge hc1) ?_
    refine mEnds.stp 1 (pc' := 26) (l' := [some (.ref 27), some (.int v1), none]) (st' := [.int (nI 0)]) (fun _ => rfl) ?_
    refine mEnds.cut (l := [some (.ref 27), some (.int v1), none]) ⟨rfl, ⟨rfl, trivial⟩⟩ ?_
    exact ok_T_refuseNinth_26 hf
