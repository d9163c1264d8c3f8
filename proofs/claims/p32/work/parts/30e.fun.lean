def C_room (x1 : Int32) (x2 : Int32) (s : sg) : Option Int32 :=
  (H_hasRoom 11 x1 s).bind fun v1 =>
  if v1 = 0 then
    some (-1)
  else
    (C_within x2 (nI 0) (nI 7) s).bind fun v2 =>
    if v2 = 0 then
      some (-1)
    else
      if x2 = nI 0 then
        (midx x1 6).bind fun j1 =>
        some (s 12 j1)
      else
        if x2 = nI 1 then
          (midx x1 6).bind fun j2 =>
          some (s 13 j2)
        else
          if x2 = nI 2 then
            (midx x1 6).bind fun j3 =>
            some (s 14 j3)
          else
            if x2 = nI 3 then
              (H_hasTongue 11 x1 s).bind fun v3 =>
              if v3 = 0 then
                some (-4)
              else
                (C_ofTongue x1 x2 s).bind fun v4 =>
                some v4
            else
              if x2 = nI 4 then
                (H_hasTongue 11 x1 s).bind fun v5 =>
                if v5 = 0 then
                  some (-4)
                else
                  (C_ofTongue x1 x2 s).bind fun v6 =>
                  some v6
              else
                if x2 = nI 5 then
                  (H_hasTongue 11 x1 s).bind fun v7 =>
                  if v7 = 0 then
                    some (-4)
                  else
                    (C_ofTongue x1 x2 s).bind fun v8 =>
                    some v8
                else
                  if x2 = nI 6 then
                    (H_hasTongue 11 x1 s).bind fun v9 =>
                    if v9 = 0 then
                      some (-4)
                    else
                      (C_ofTongue x1 x2 s).bind fun v10 =>
                      some v10
                  else
                    if x2 = nI 7 then
                      (H_isOn 11 x1 s).bind fun v11 =>
                      if v11 = 0 then
                        some (nI 0)
                      else
                        some (nI 1)
                    else
                      (H_hasTongue 11 x1 s).bind fun v12 =>
                      if v12 = 0 then
                        some (-4)
                      else
                        (C_ofTongue x1 x2 s).bind fun v13 =>
                        some v13
set_option maxRecDepth 100000 in
theorem ok_C_room {x1 : Int32} {x2 : Int32} {s : sg} {rv : Int32} (hf : C_room x1 x2 s = some rv) : mEnds [] 2 60 (0, [some (.ref 10), some (.int x1), some (.int x2)], [], hp shC s, 0, 0) (some (.int rv), hp shC s, 0, 0) := by
  unfold C_room at hf
  refine mEnds.stp 1 (pc' := 1) (l' := [some (.ref 10), some (.int x1), some (.int x2)]) (st' := [.ref 10]) (fun _ => rfl) ?_
  refine t_gr (rfl : mfetch 60 1 = some (1, .getfield 10, 3, 4, 0, 0)) rfl rfl ?_
  refine mEnds.stp 1 (pc' := 5) (l' := [some (.ref 10), some (.int x1), some (.int x2)]) (st' := [.int x1, .ref 11]) (fun _ => rfl) ?_
  obtain ⟨v1, hv1, hf⟩ := ob hf
  refine t_cv (as := [.int x1]) (st := []) (rfl : mfetch 60 5 = some (5, .invokevirtual 105, 3, 8, 0, 0)) rfl rfl rfl rfl rfl ((ok_H_hasRoom isH_11 hv1).deep 1) ?_
  by_cases hc1 : v1 = 0
  · rw [if_pos hc1] at hf
    refine t_jT (t := 21) (rfl : mfetch 60 8 = some (8, .ifCond .eq 13, 3, 0, 0, 0)) rfl (k_eq hc1) ?_
    refine mEnds.stp 1 (pc' := 22) (l' := [some (.ref 10), some (.int x1), some (.int x2)]) (st' := [.int (-1)]) (fun _ => rfl) ?_
    cases hf; exact mEnds.rt (fun _ => rfl)
  · rw [if_neg hc1] at hf
    refine t_jF (rfl : mfetch 60 8 = some (8, .ifCond .eq 13, 3, 0, 0, 0)) (k_eq' hc1) ?_
    refine mEnds.stp 3 (pc' := 15) (l' := [some (.ref 10), some (.int x1), some (.int x2)]) (st' := [.int (nI 7), .int (nI 0), .int x2]) (fun _ => rfl) ?_
    obtain ⟨v2, hv2, hf⟩ := ob hf
    refine t_cs (as := [.int x2, .int (nI 0), .int (nI 7)]) (st := []) (Or.inl rfl) (rfl : mfetch 60 15 = some (15, .invokestatic 48, 3, 105, 0, 0)) rfl rfl rfl ((ok_C_within hv2).deep 1) ?_
    by_cases hc2 : v2 = 0
    · rw [if_pos hc2] at hf
      refine t_jF (rfl : mfetch 60 18 = some (18, .ifCond .ne 5, 3, 0, 0, 0)) (k_ne' hc2) ?_
      refine mEnds.stp 1 (pc' := 22) (l' := [some (.ref 10), some (.int x1), some (.int x2)]) (st' := [.int (-1)]) (fun _ => rfl) ?_
      cases hf; exact mEnds.rt (fun _ => rfl)
    · rw [if_neg hc2] at hf
      refine t_jT (t := 23) (rfl : mfetch 60 18 = some (18, .ifCond .ne 5, 3, 0, 0, 0)) rfl (k_ne hc2) ?_
      refine mEnds.stp 1 (pc' := 24) (l' := [some (.ref 10), some (.int x1), some (.int x2)]) (st' := [.int x2]) (fun _ => rfl) ?_
      by_cases hc3 : x2 = nI 0
      · rw [if_pos hc3] at hf
        refine t_sw hc3 (fun _ _ _ => rfl) (t := 72) ?_
        refine mEnds.stp 1 (pc' := 73) (l' := [some (.ref 10), some (.int x1), some (.int x2)]) (st' := [.ref 10]) (fun _ => rfl) ?_
        refine t_gr (rfl : mfetch 60 73 = some (73, .getfield 10, 3, 4, 0, 0)) rfl rfl ?_
        refine t_gr (rfl : mfetch 60 76 = some (76, .getfield 108, 3, 1, 5, 0)) rfl rfl ?_
        refine mEnds.stp 1 (pc' := 80) (l' := [some (.ref 10), some (.int x1), some (.int x2)]) (st' := [.int x1, .ref 12]) (fun _ => rfl) ?_
        obtain ⟨j1, hj1, hf⟩ := ob hf
        refine t_ia (rfl : mfetch 60 80 = some (80, .iaload, 1, 0, 0, 0)) rfl rfl hj1 ?_
        cases hf; exact mEnds.rt (fun _ => rfl)
      · rw [if_neg hc3] at hf
        by_cases hc4 : x2 = nI 1
        · rw [if_pos hc4] at hf
          refine t_sw hc4 (fun _ _ _ => rfl) (t := 82) ?_
          refine mEnds.stp 1 (pc' := 83) (l' := [some (.ref 10), some (.int x1), some (.int x2)]) (st' := [.ref 10]) (fun _ => rfl) ?_
          refine t_gr (rfl : mfetch 60 83 = some (83, .getfield 10, 3, 4, 0, 0)) rfl rfl ?_
          refine t_gr (rfl : mfetch 60 86 = some (86, .getfield 112, 3, 1, 6, 0)) rfl rfl ?_
          refine mEnds.stp 1 (pc' := 90) (l' := [some (.ref 10), some (.int x1), some (.int x2)]) (st' := [.int x1, .ref 13]) (fun _ => rfl) ?_
          obtain ⟨j2, hj2, hf⟩ := ob hf
          refine t_ia (rfl : mfetch 60 90 = some (90, .iaload, 1, 0, 0, 0)) rfl rfl hj2 ?_
          cases hf; exact mEnds.rt (fun _ => rfl)
        · rw [if_neg hc4] at hf
          by_cases hc5 : x2 = nI 2
          · rw [if_pos hc5] at hf
            refine t_sw hc5 (fun _ _ _ => rfl) (t := 92) ?_
            refine mEnds.stp 1 (pc' := 93) (l' := [some (.ref 10), some (.int x1), some (.int x2)]) (st' := [.ref 10]) (fun _ => rfl) ?_
            refine t_gr (rfl : mfetch 60 93 = some (93, .getfield 10, 3, 4, 0, 0)) rfl rfl ?_
            refine t_gr (rfl : mfetch 60 96 = some (96, .getfield 115, 3, 1, 7, 0)) rfl rfl ?_
            refine mEnds.stp 1 (pc' := 100) (l' := [some (.ref 10), some (.int x1), some (.int x2)]) (st' := [.int x1, .ref 14]) (fun _ => rfl) ?_
            obtain ⟨j3, hj3, hf⟩ := ob hf
            refine t_ia (rfl : mfetch 60 100 = some (100, .iaload, 1, 0, 0, 0)) rfl rfl hj3 ?_
            cases hf; exact mEnds.rt (fun _ => rfl)
          · rw [if_neg hc5] at hf
            by_cases hc6 : x2 = nI 3
            · rw [if_pos hc6] at hf
              refine t_sw hc6 (fun _ _ _ => rfl) (t := 119) ?_
              refine mEnds.stp 1 (pc' := 120) (l' := [some (.ref 10), some (.int x1), some (.int x2)]) (st' := [.ref 10]) (fun _ => rfl) ?_
              refine t_gr (rfl : mfetch 60 120 = some (120, .getfield 10, 3, 4, 0, 0)) rfl rfl ?_
              refine mEnds.stp 1 (pc' := 124) (l' := [some (.ref 10), some (.int x1), some (.int x2)]) (st' := [.int x1, .ref 11]) (fun _ => rfl) ?_
              obtain ⟨v3, hv3, hf⟩ := ob hf
              refine t_cv (as := [.int x1]) (st := []) (rfl : mfetch 60 124 = some (124, .invokevirtual 121, 3, 10, 0, 0)) rfl rfl rfl rfl rfl ((ok_H_hasTongue isH_11 hv3).deep 1) ?_
              by_cases hc7 : v3 = 0
              · rw [if_pos hc7] at hf
                refine t_jT (t := 139) (rfl : mfetch 60 127 = some (127, .ifCond .eq 12, 3, 0, 0, 0)) rfl (k_eq hc7) ?_
                refine mEnds.stp 1 (pc' := 141) (l' := [some (.ref 10), some (.int x1), some (.int x2)]) (st' := [.int (-4)]) (fun _ => rfl) ?_
                cases hf; exact mEnds.rt (fun _ => rfl)
              · rw [if_neg hc7] at hf
                refine t_jF (rfl : mfetch 60 127 = some (127, .ifCond .eq 12, 3, 0, 0, 0)) (k_eq' hc7) ?_
                refine mEnds.stp 3 (pc' := 133) (l' := [some (.ref 10), some (.int x1), some (.int x2)]) (st' := [.int x2, .int x1, .ref 10]) (fun _ => rfl) ?_
                obtain ⟨v4, hv4, hf⟩ := ob hf
                refine t_cv (as := [.int x1, .int x2]) (st := []) (rfl : mfetch 60 133 = some (133, .invokevirtual 124, 3, 61, 0, 0)) rfl rfl rfl rfl rfl (ok_C_ofTongue hv4) ?_
                refine mEnds.stp 1 (pc' := 141) (l' := [some (.ref 10), some (.int x1), some (.int x2)]) (st' := [.int v4]) (fun _ => rfl) ?_
                cases hf; exact mEnds.rt (fun _ => rfl)
            · rw [if_neg hc6] at hf
              by_cases hc8 : x2 = nI 4
              · rw [if_pos hc8] at hf
                refine t_sw hc8 (fun _ _ _ => rfl) (t := 119) ?_
                refine mEnds.stp 1 (pc' := 120) (l' := [some (.ref 10), some (.int x1), some (.int x2)]) (st' := [.ref 10]) (fun _ => rfl) ?_
                refine t_gr (rfl : mfetch 60 120 = some (120, .getfield 10, 3, 4, 0, 0)) rfl rfl ?_
                refine mEnds.stp 1 (pc' := 124) (l' := [some (.ref 10), some (.int x1), some (.int x2)]) (st' := [.int x1, .ref 11]) (fun _ => rfl) ?_
                obtain ⟨v5, hv5, hf⟩ := ob hf
                refine t_cv (as := [.int x1]) (st := []) (rfl : mfetch 60 124 = some (124, .invokevirtual 121, 3, 10, 0, 0)) rfl rfl rfl rfl rfl ((ok_H_hasTongue isH_11 hv5).deep 1) ?_
                by_cases hc9 : v5 = 0
                · rw [if_pos hc9] at hf
                  refine t_jT (t := 139) (rfl : mfetch 60 127 = some (127, .ifCond .eq 12, 3, 0, 0, 0)) rfl (k_eq hc9) ?_
                  refine mEnds.stp 1 (pc' := 141) (l' := [some (.ref 10), some (.int x1), some (.int x2)]) (st' := [.int (-4)]) (fun _ => rfl) ?_
                  cases hf; exact mEnds.rt (fun _ => rfl)
                · rw [if_neg hc9] at hf
                  refine t_jF (rfl : mfetch 60 127 = some (127, .ifCond .eq 12, 3, 0, 0, 0)) (k_eq' hc9) ?_
                  refine mEnds.stp 3 (pc' := 133) (l' := [some (.ref 10), some (.int x1), some (.int x2)]) (st' := [.int x2, .int x1, .ref 10]) (fun _ => rfl) ?_
                  obtain ⟨v6, hv6, hf⟩ := ob hf
                  refine t_cv (as := [.int x1, .int x2]) (st := []) (rfl : mfetch 60 133 = some (133, .invokevirtual 124, 3, 61, 0, 0)) rfl rfl rfl rfl rfl (ok_C_ofTongue hv6) ?_
                  refine mEnds.stp 1 (pc' := 141) (l' := [some (.ref 10), some (.int x1), some (.int x2)]) (st' := [.int v6]) (fun _ => rfl) ?_
                  cases hf; exact mEnds.rt (fun _ => rfl)
              · rw [if_neg hc8] at hf
                by_cases hc10 : x2 = nI 5
                · rw [if_pos hc10] at hf
                  refine t_sw hc10 (fun _ _ _ => rfl) (t := 119) ?_
                  refine mEnds.stp 1 (pc' := 120) (l' := [some (.ref 10), some (.int x1), some (.int x2)]) (st' := [.ref 10]) (fun _ => rfl) ?_
                  refine t_gr (rfl : mfetch 60 120 = some (120, .getfield 10, 3, 4, 0, 0)) rfl rfl ?_
                  refine mEnds.stp 1 (pc' := 124) (l' := [some (.ref 10), some (.int x1), some (.int x2)]) (st' := [.int x1, .ref 11]) (fun _ => rfl) ?_
                  obtain ⟨v7, hv7, hf⟩ := ob hf
                  refine t_cv (as := [.int x1]) (st := []) (rfl : mfetch 60 124 = some (124, .invokevirtual 121, 3, 10, 0, 0)) rfl rfl rfl rfl rfl ((ok_H_hasTongue isH_11 hv7).deep 1) ?_
                  by_cases hc11 : v7 = 0
                  · rw [if_pos hc11] at hf
                    refine t_jT (t := 139) (rfl : mfetch 60 127 = some (127, .ifCond .eq 12, 3, 0, 0, 0)) rfl (k_eq hc11) ?_
                    refine mEnds.stp 1 (pc' := 141) (l' := [some (.ref 10), some (.int x1), some (.int x2)]) (st' := [.int (-4)]) (fun _ => rfl) ?_
                    cases hf; exact mEnds.rt (fun _ => rfl)
                  · rw [if_neg hc11] at hf
                    refine t_jF (rfl : mfetch 60 127 = some (127, .ifCond .eq 12, 3, 0, 0, 0)) (k_eq' hc11) ?_
                    refine mEnds.stp 3 (pc' := 133) (l' := [some (.ref 10), some (.int x1), some (.int x2)]) (st' := [.int x2, .int x1, .ref 10]) (fun _ => rfl) ?_
                    obtain ⟨v8, hv8, hf⟩ := ob hf
                    refine t_cv (as := [.int x1, .int x2]) (st := []) (rfl : mfetch 60 133 = some (133, .invokevirtual 124, 3, 61, 0, 0)) rfl rfl rfl rfl rfl (ok_C_ofTongue hv8) ?_
                    refine mEnds.stp 1 (pc' := 141) (l' := [some (.ref 10), some (.int x1), some (.int x2)]) (st' := [.int v8]) (fun _ => rfl) ?_
                    cases hf; exact mEnds.rt (fun _ => rfl)
                · rw [if_neg hc10] at hf
                  by_cases hc12 : x2 = nI 6
                  · rw [if_pos hc12] at hf
                    refine t_sw hc12 (fun _ _ _ => rfl) (t := 119) ?_
                    refine mEnds.stp 1 (pc' := 120) (l' := [some (.ref 10), some (.int x1), some (.int x2)]) (st' := [.ref 10]) (fun _ => rfl) ?_
                    refine t_gr (rfl : mfetch 60 120 = some (120, .getfield 10, 3, 4, 0, 0)) rfl rfl ?_
                    refine mEnds.stp 1 (pc' := 124) (l' := [some (.ref 10), some (.int x1), some (.int x2)]) (st' := [.int x1, .ref 11]) (fun _ => rfl) ?_
                    obtain ⟨v9, hv9, hf⟩ := ob hf
                    refine t_cv (as := [.int x1]) (st := []) (rfl : mfetch 60 124 = some (124, .invokevirtual 121, 3, 10, 0, 0)) rfl rfl rfl rfl rfl ((ok_H_hasTongue isH_11 hv9).deep 1) ?_
                    by_cases hc13 : v9 = 0
                    · rw [if_pos hc13] at hf
                      refine t_jT (t := 139) (rfl : mfetch 60 127 = some (127, .ifCond .eq 12, 3, 0, 0, 0)) rfl (k_eq hc13) ?_
                      refine mEnds.stp 1 (pc' := 141) (l' := [some (.ref 10), some (.int x1), some (.int x2)]) (st' := [.int (-4)]) (fun _ => rfl) ?_
                      cases hf; exact mEnds.rt (fun _ => rfl)
                    · rw [if_neg hc13] at hf
                      refine t_jF (rfl : mfetch 60 127 = some (127, .ifCond .eq 12, 3, 0, 0, 0)) (k_eq' hc13) ?_
                      refine mEnds.stp 3 (pc' := 133) (l' := [some (.ref 10), some (.int x1), some (.int x2)]) (st' := [.int x2, .int x1, .ref 10]) (fun _ => rfl) ?_
                      obtain ⟨v10, hv10, hf⟩ := ob hf
                      refine t_cv (as := [.int x1, .int x2]) (st := []) (rfl : mfetch 60 133 = some (133, .invokevirtual 124, 3, 61, 0, 0)) rfl rfl rfl rfl rfl (ok_C_ofTongue hv10) ?_
                      refine mEnds.stp 1 (pc' := 141) (l' := [some (.ref 10), some (.int x1), some (.int x2)]) (st' := [.int v10]) (fun _ => rfl) ?_
                      cases hf; exact mEnds.rt (fun _ => rfl)
                  · rw [if_neg hc12] at hf
                    by_cases hc14 : x2 = nI 7
                    · rw [if_pos hc14] at hf
                      refine t_sw hc14 (fun _ _ _ => rfl) (t := 102) ?_
                      refine mEnds.stp 1 (pc' := 103) (l' := [some (.ref 10), some (.int x1), some (.int x2)]) (st' := [.ref 10]) (fun _ => rfl) ?_
                      refine t_gr (rfl : mfetch 60 103 = some (103, .getfield 10, 3, 4, 0, 0)) rfl rfl ?_
                      refine mEnds.stp 1 (pc' := 107) (l' := [some (.ref 10), some (.int x1), some (.int x2)]) (st' := [.int x1, .ref 11]) (fun _ => rfl) ?_
                      obtain ⟨v11, hv11, hf⟩ := ob hf
                      refine t_cv (as := [.int x1]) (st := []) (rfl : mfetch 60 107 = some (107, .invokevirtual 118, 3, 11, 0, 0)) rfl rfl rfl rfl rfl ((ok_H_isOn isH_11 hv11).deep 1) ?_
                      by_cases hc15 : v11 = 0
                      · rw [if_pos hc15] at hf
                        refine t_jT (t := 117) (rfl : mfetch 60 110 = some (110, .ifCond .eq 7, 3, 0, 0, 0)) rfl (k_eq hc15) ?_
                        refine mEnds.stp 1 (pc' := 118) (l' := [some (.ref 10), some (.int x1), some (.int x2)]) (st' := [.int (nI 0)]) (fun _ => rfl) ?_
                        cases hf; exact mEnds.rt (fun _ => rfl)
                      · rw [if_neg hc15] at hf
                        refine t_jF (rfl : mfetch 60 110 = some (110, .ifCond .eq 7, 3, 0, 0, 0)) (k_eq' hc15) ?_
                        refine mEnds.stp 2 (pc' := 118) (l' := [some (.ref 10), some (.int x1), some (.int x2)]) (st' := [.int (nI 1)]) (fun _ => rfl) ?_
                        cases hf; exact mEnds.rt (fun _ => rfl)
                    · rw [if_neg hc14] at hf
                      refine t_swD (t := 119) (rfl : mfetch 60 24 = some (24, .tableswitch 95 0 7 #[48, 58, 68, 95, 95, 95, 95, 78], 48, 0, 0, 0)) rfl (sw_out (fun k hk => match k, hk with | 0, _ => hc3 | 1, _ => hc4 | 2, _ => hc5 | 3, _ => hc6 | 4, _ => hc8 | 5, _ => hc10 | 6, _ => hc12 | 7, _ => hc14 | k + 8, hk => absurd hk (by omega))) ?_
                      refine mEnds.stp 1 (pc' := 120) (l' := [some (.ref 10), some (.int x1), some (.int x2)]) (st' := [.ref 10]) (fun _ => rfl) ?_
                      refine t_gr (rfl : mfetch 60 120 = some (120, .getfield 10, 3, 4, 0, 0)) rfl rfl ?_
                      refine mEnds.stp 1 (pc' := 124) (l' := [some (.ref 10), some (.int x1), some (.int x2)]) (st' := [.int x1, .ref 11]) (fun _ => rfl) ?_
                      obtain ⟨v12, hv12, hf⟩ := ob hf
                      refine t_cv (as := [.int x1]) (st := []) (rfl : mfetch 60 124 = some (124, .invokevirtual 121, 3, 10, 0, 0)) rfl rfl rfl rfl rfl ((ok_H_hasTongue isH_11 hv12).deep 1) ?_
                      by_cases hc16 : v12 = 0
                      · rw [if_pos hc16] at hf
                        refine t_jT (t := 139) (rfl : mfetch 60 127 = some (127, .ifCond .eq 12, 3, 0, 0, 0)) rfl (k_eq hc16) ?_
                        refine mEnds.stp 1 (pc' := 141) (l' := [some (.ref 10), some (.int x1), some (.int x2)]) (st' := [.int (-4)]) (fun _ => rfl) ?_
                        cases hf; exact mEnds.rt (fun _ => rfl)
                      · rw [if_neg hc16] at hf
                        refine t_jF (rfl : mfetch 60 127 = some (127, .ifCond .eq 12, 3, 0, 0, 0)) (k_eq' hc16) ?_
                        refine mEnds.stp 3 (pc' := 133) (l' := [some (.ref 10), some (.int x1), some (.int x2)]) (st' := [.int x2, .int x1, .ref 10]) (fun _ => rfl) ?_
                        obtain ⟨v13, hv13, hf⟩ := ob hf
                        refine t_cv (as := [.int x1, .int x2]) (st := []) (rfl : mfetch 60 133 = some (133, .invokevirtual 124, 3, 61, 0, 0)) rfl rfl rfl rfl rfl (ok_C_ofTongue hv13) ?_
                        refine mEnds.stp 1 (pc' := 141) (l' := [some (.ref 10), some (.int x1), some (.int x2)]) (st' := [.int v13]) (fun _ => rfl) ?_
                        cases hf; exact mEnds.rt (fun _ => rfl)
def C_wall (x1 : Int32) (s : sg) : Option Int32 :=
  (H_hasWall 11 x1 s).bind fun v1 =>
  if v1 = 0 then
    some (-1)
  else
    (midx x1 5).bind fun j1 =>
    some (s 17 j1)
set_option maxRecDepth 100000 in
theorem ok_C_wall {x1 : Int32} {s : sg} {rv : Int32} (hf : C_wall x1 s = some rv) : mEnds [] 1 62 (0, [some (.ref 10), some (.int x1)], [], hp shC s, 0, 0) (some (.int rv), hp shC s, 0, 0) := by
  unfold C_wall at hf
  refine mEnds.stp 1 (pc' := 1) (l' := [some (.ref 10), some (.int x1)]) (st' := [.ref 10]) (fun _ => rfl) ?_
  refine t_gr (rfl : mfetch 62 1 = some (1, .getfield 10, 3, 4, 0, 0)) rfl rfl ?_
  refine mEnds.stp 1 (pc' := 5) (l' := [some (.ref 10), some (.int x1)]) (st' := [.int x1, .ref 11]) (fun _ => rfl) ?_
  obtain ⟨v1, hv1, hf⟩ := ob hf
  refine t_cv (as := [.int x1]) (st := []) (rfl : mfetch 62 5 = some (5, .invokevirtual 141, 3, 9, 0, 0)) rfl rfl rfl rfl rfl (ok_H_hasWall isH_11 hv1) ?_
  by_cases hc1 : v1 = 0
  · rw [if_pos hc1] at hf
    refine t_jT (t := 23) (rfl : mfetch 62 8 = some (8, .ifCond .eq 15, 3, 0, 0, 0)) rfl (k_eq hc1) ?_
    refine mEnds.stp 1 (pc' := 24) (l' := [some (.ref 10), some (.int x1)]) (st' := [.int (-1)]) (fun _ => rfl) ?_
    cases hf; exact mEnds.rt (fun _ => rfl)
  · rw [if_neg hc1] at hf
    refine t_jF (rfl : mfetch 62 8 = some (8, .ifCond .eq 15, 3, 0, 0, 0)) (k_eq' hc1) ?_
    refine mEnds.stp 1 (pc' := 12) (l' := [some (.ref 10), some (.int x1)]) (st' := [.ref 10]) (fun _ => rfl) ?_
    refine t_gr (rfl : mfetch 62 12 = some (12, .getfield 10, 3, 4, 0, 0)) rfl rfl ?_
    refine t_gr (rfl : mfetch 62 15 = some (15, .getfield 144, 3, 1, 10, 0)) rfl rfl ?_
    refine mEnds.stp 1 (pc' := 19) (l' := [some (.ref 10), some (.int x1)]) (st' := [.int x1, .ref 17]) (fun _ => rfl) ?_
    obtain ⟨j1, hj1, hf⟩ := ob hf
    refine t_ia (rfl : mfetch 62 19 = some (19, .iaload, 1, 0, 0, 0)) rfl rfl hj1 ?_
    refine mEnds.stp 1 (pc' := 24) (l' := [some (.ref 10), some (.int x1)]) (st' := [.int (s 17 j1)]) (fun _ => rfl) ?_
    cases hf; exact mEnds.rt (fun _ => rfl)
def C_outside (x1 : Int32) (s : sg) : Option Int32 :=
  (C_within x1 (nI 0) (nI 7) s).bind fun v1 =>
  if v1 = 0 then
    some (-1)
  else
    (midx x1 8).bind fun j1 =>
    some (s 18 j1)
set_option maxRecDepth 100000 in
theorem ok_C_outside {x1 : Int32} {s : sg} {rv : Int32} (hf : C_outside x1 s = some rv) : mEnds [] 1 63 (0, [some (.ref 10), some (.int x1)], [], hp shC s, 0, 0) (some (.int rv), hp shC s, 0, 0) := by
  unfold C_outside at hf
  refine mEnds.stp 3 (pc' := 4) (l' := [some (.ref 10), some (.int x1)]) (st' := [.int (nI 7), .int (nI 0), .int x1]) (fun _ => rfl) ?_
  obtain ⟨v1, hv1, hf⟩ := ob hf
  refine t_cs (as := [.int x1, .int (nI 0), .int (nI 7)]) (st := []) (Or.inl rfl) (rfl : mfetch 63 4 = some (4, .invokestatic 48, 3, 105, 0, 0)) rfl rfl rfl (ok_C_within hv1) ?_
  by_cases hc1 : v1 = 0
  · rw [if_pos hc1] at hf
    refine t_jT (t := 22) (rfl : mfetch 63 7 = some (7, .ifCond .eq 15, 3, 0, 0, 0)) rfl (k_eq hc1) ?_
    refine mEnds.stp 1 (pc' := 23) (l' := [some (.ref 10), some (.int x1)]) (st' := [.int (-1)]) (fun _ => rfl) ?_
    cases hf; exact mEnds.rt (fun _ => rfl)
  · rw [if_neg hc1] at hf
    refine t_jF (rfl : mfetch 63 7 = some (7, .ifCond .eq 15, 3, 0, 0, 0)) (k_eq' hc1) ?_
    refine mEnds.stp 1 (pc' := 11) (l' := [some (.ref 10), some (.int x1)]) (st' := [.ref 10]) (fun _ => rfl) ?_
    refine t_gr (rfl : mfetch 63 11 = some (11, .getfield 10, 3, 4, 0, 0)) rfl rfl ?_
    refine t_gr (rfl : mfetch 63 14 = some (14, .getfield 147, 3, 1, 11, 0)) rfl rfl ?_
    refine mEnds.stp 1 (pc' := 18) (l' := [some (.ref 10), some (.int x1)]) (st' := [.int x1, .ref 18]) (fun _ => rfl) ?_
    obtain ⟨j1, hj1, hf⟩ := ob hf
    refine t_ia (rfl : mfetch 63 18 = some (18, .iaload, 1, 0, 0, 0)) rfl rfl hj1 ?_
    refine mEnds.stp 1 (pc' := 23) (l' := [some (.ref 10), some (.int x1)]) (st' := [.int (s 18 j1)]) (fun _ => rfl) ?_
    cases hf; exact mEnds.rt (fun _ => rfl)
def C_alter_79 (x1 : Int32) (x3 : Int32) (y0 : Nat) (s : sg) : Option (Int32 × sg) :=
  (C_exchange y0 6 x1 x3 s).bind fun v1 =>
  some (v1.1, v1.2)
set_option maxRecDepth 100000 in
theorem ok_C_alter_79 {x1 : Int32} {x3 : Int32} {y0 : Nat} (hy0_1 : shC[y0]? = some (.inl (0, 6))) (hy0_3 : Nat.ble mn0 y0 = true) {s : sg} {rv : (Int32 × sg)} (hf : C_alter_79 x1 x3 y0 s = some rv) : mEnds [] 1 64 (79, [none, some (.int x1), none, some (.int x3), none], [.ref y0], hp shC s, 0, 0) (some (.int rv.1), hp shC rv.2, 0, 0) := by
  unfold C_alter_79 at hf
  refine mEnds.stp 4 (pc' := 85) (l' := [none, some (.int x1), none, some (.int x3), some (.ref y0)]) (st' := [.int x3, .int x1, .ref y0]) (fun _ => rfl) ?_
  obtain ⟨v1, hv1, hf⟩ := ob hf
  refine t_cs (as := [.ref y0, .int x1, .int x3]) (st := []) (Or.inl rfl) (rfl : mfetch 64 85 = some (85, .invokestatic 150, 3, 107, 0, 0)) rfl rfl rfl (ok_C_exchange hy0_1 hy0_3 hv1) ?_
  exact mEnds.rti (Option.some.inj hf) (fun _ => rfl)
def C_alter_35 (x1 : Int32) (x2 : Int32) (x3 : Int32) (y0 : Int32) (y1 : Int32) (y2 : Int32) (s : sg) : Option (Int32 × sg) :=
  (C_within y2 y1 y0 s).bind fun v1 =>
  if v1 = 0 then
    some ((-1), s)
  else
    if x2 = 0 then
      C_alter_79 x1 x3 12 s
    else
      if x2 = nI 1 then
        C_alter_79 x1 x3 13 s
      else
        C_alter_79 x1 x3 14 s
set_option maxRecDepth 100000 in
theorem ok_C_alter_35 {x1 : Int32} {x2 : Int32} {x3 : Int32} {y0 : Int32} {y1 : Int32} {y2 : Int32} {s : sg} {rv : (Int32 × sg)} (hf : C_alter_35 x1 x2 x3 y0 y1 y2 s = some rv) : mEnds [] 1 64 (35, [some (.ref 10), some (.int x1), some (.int x2), some (.int x3), none], [.int y0, .int y1, .int y2], hp shC s, 0, 0) (some (.int rv.1), hp shC rv.2, 0, 0) := by
  unfold C_alter_35 at hf
  obtain ⟨v1, hv1, hf⟩ := ob hf
  refine t_cs (as := [.int y2, .int y1, .int y0]) (st := []) (Or.inl rfl) (rfl : mfetch 64 35 = some (35, .invokestatic 48, 3, 105, 0, 0)) rfl rfl rfl (ok_C_within hv1) ?_
  by_cases hc1 : v1 = 0
  · rw [if_pos hc1] at hf
    refine t_jF (rfl : mfetch 64 38 = some (38, .ifCond .ne 5, 3, 0, 0, 0)) (k_ne' hc1) ?_
    refine mEnds.stp 1 (pc' := 42) (l' := [some (.ref 10), some (.int x1), some (.int x2), some (.int x3), none]) (st' := [.int (-1)]) (fun _ => rfl) ?_
    exact mEnds.rti (Option.some.inj hf) (fun _ => rfl)
  · rw [if_neg hc1] at hf
    refine t_jT (t := 43) (rfl : mfetch 64 38 = some (38, .ifCond .ne 5, 3, 0, 0, 0)) rfl (k_ne hc1) ?_
    refine mEnds.stp 1 (pc' := 44) (l' := [some (.ref 10), some (.int x1), some (.int x2), some (.int x3), none]) (st' := [.int x2]) (fun _ => rfl) ?_
    by_cases hc2 : x2 = 0
    · rw [if_pos hc2] at hf
      refine t_jF (rfl : mfetch 64 44 = some (44, .ifCond .ne 13, 3, 0, 0, 0)) (k_ne' hc2) ?_
      refine mEnds.stp 1 (pc' := 48) (l' := [some (.ref 10), some (.int x1), some (.int x2), some (.int x3), none]) (st' := [.ref 10]) (fun _ => rfl) ?_
      refine t_gr (rfl : mfetch 64 48 = some (48, .getfield 10, 3, 4, 0, 0)) rfl rfl ?_
      refine t_gr (rfl : mfetch 64 51 = some (51, .getfield 108, 3, 1, 5, 0)) rfl rfl ?_
      refine mEnds.stp 1 (pc' := 79) (l' := [some (.ref 10), some (.int x1), some (.int x2), some (.int x3), none]) (st' := [.ref 12]) (fun _ => rfl) ?_
      refine mEnds.cut (l := [none, some (.int x1), none, some (.int x3), none]) ⟨rfl, ⟨rfl, trivial⟩⟩ ?_
      exact ok_C_alter_79 rfl rfl hf
    · rw [if_neg hc2] at hf
      refine t_jT (t := 57) (rfl : mfetch 64 44 = some (44, .ifCond .ne 13, 3, 0, 0, 0)) rfl (k_ne hc2) ?_
      refine mEnds.stp 2 (pc' := 59) (l' := [some (.ref 10), some (.int x1), some (.int x2), some (.int x3), none]) (st' := [.int (nI 1), .int x2]) (fun _ => rfl) ?_
      by_cases hc3 : x2 = nI 1
      · rw [if_pos hc3] at hf
        refine t_cF (rfl : mfetch 64 59 = some (59, .if_icmp .ne 13, 3, 0, 0, 0)) (k_ne' hc3) ?_
        refine mEnds.stp 1 (pc' := 63) (l' := [some (.ref 10), some (.int x1), some (.int x2), some (.int x3), none]) (st' := [.ref 10]) (fun _ => rfl) ?_
        refine t_gr (rfl : mfetch 64 63 = some (63, .getfield 10, 3, 4, 0, 0)) rfl rfl ?_
        refine t_gr (rfl : mfetch 64 66 = some (66, .getfield 112, 3, 1, 6, 0)) rfl rfl ?_
        refine mEnds.stp 1 (pc' := 79) (l' := [some (.ref 10), some (.int x1), some (.int x2), some (.int x3), none]) (st' := [.ref 13]) (fun _ => rfl) ?_
        refine mEnds.cut (l := [none, some (.int x1), none, some (.int x3), none]) ⟨rfl, ⟨rfl, trivial⟩⟩ ?_
        exact ok_C_alter_79 rfl rfl hf
      · rw [if_neg hc3] at hf
        refine t_cT (t := 72) (rfl : mfetch 64 59 = some (59, .if_icmp .ne 13, 3, 0, 0, 0)) rfl (k_ne hc3) ?_
        refine mEnds.stp 1 (pc' := 73) (l' := [some (.ref 10), some (.int x1), some (.int x2), some (.int x3), none]) (st' := [.ref 10]) (fun _ => rfl) ?_
        refine t_gr (rfl : mfetch 64 73 = some (73, .getfield 10, 3, 4, 0, 0)) rfl rfl ?_
        refine t_gr (rfl : mfetch 64 76 = some (76, .getfield 115, 3, 1, 7, 0)) rfl rfl ?_
        refine mEnds.cut (l := [none, some (.int x1), none, some (.int x3), none]) ⟨rfl, ⟨rfl, trivial⟩⟩ ?_
        exact ok_C_alter_79 rfl rfl hf
def C_alter (x1 : Int32) (x2 : Int32) (x3 : Int32) (s : sg) : Option (Int32 × sg) :=
  (H_hasRoom 11 x1 s).bind fun v1 =>
  if v1 = 0 then
    some ((-1), s)
  else
    (C_within x2 (nI 0) (nI 2) s).bind fun v2 =>
    if v2 = 0 then
      some ((-1), s)
    else
      if x2 = 0 then
        C_alter_35 x1 x2 x3 (nI 99) (nI 0) x3 s
      else
        C_alter_35 x1 x2 x3 (nI 9) (nI 0) x3 s
set_option maxRecDepth 100000 in
theorem ok_C_alter {x1 : Int32} {x2 : Int32} {x3 : Int32} {s : sg} {rv : (Int32 × sg)} (hf : C_alter x1 x2 x3 s = some rv) : mEnds [] 1 64 (0, [some (.ref 10), some (.int x1), some (.int x2), some (.int x3), none], [], hp shC s, 0, 0) (some (.int rv.1), hp shC rv.2, 0, 0) := by
  unfold C_alter at hf
  refine mEnds.stp 1 (pc' := 1) (l' := [some (.ref 10), some (.int x1), some (.int x2), some (.int x3), none]) (st' := [.ref 10]) (fun _ => rfl) ?_
  refine t_gr (rfl : mfetch 64 1 = some (1, .getfield 10, 3, 4, 0, 0)) rfl rfl ?_
  refine mEnds.stp 1 (pc' := 5) (l' := [some (.ref 10), some (.int x1), some (.int x2), some (.int x3), none]) (st' := [.int x1, .ref 11]) (fun _ => rfl) ?_
  obtain ⟨v1, hv1, hf⟩ := ob hf
  refine t_cv (as := [.int x1]) (st := []) (rfl : mfetch 64 5 = some (5, .invokevirtual 105, 3, 8, 0, 0)) rfl rfl rfl rfl rfl (ok_H_hasRoom isH_11 hv1) ?_
  by_cases hc1 : v1 = 0
  · rw [if_pos hc1] at hf
    refine t_jT (t := 20) (rfl : mfetch 64 8 = some (8, .ifCond .eq 12, 3, 0, 0, 0)) rfl (k_eq hc1) ?_
    refine mEnds.stp 1 (pc' := 21) (l' := [some (.ref 10), some (.int x1), some (.int x2), some (.int x3), none]) (st' := [.int (-1)]) (fun _ => rfl) ?_
    exact mEnds.rti (Option.some.inj hf) (fun _ => rfl)
  · rw [if_neg hc1] at hf
    refine t_jF (rfl : mfetch 64 8 = some (8, .ifCond .eq 12, 3, 0, 0, 0)) (k_eq' hc1) ?_
    refine mEnds.stp 3 (pc' := 14) (l' := [some (.ref 10), some (.int x1), some (.int x2), some (.int x3), none]) (st' := [.int (nI 2), .int (nI 0), .int x2]) (fun _ => rfl) ?_
    obtain ⟨v2, hv2, hf⟩ := ob hf
    refine t_cs (as := [.int x2, .int (nI 0), .int (nI 2)]) (st := []) (Or.inl rfl) (rfl : mfetch 64 14 = some (14, .invokestatic 48, 3, 105, 0, 0)) rfl rfl rfl (ok_C_within hv2) ?_
    by_cases hc2 : v2 = 0
    · rw [if_pos hc2] at hf
      refine t_jF (rfl : mfetch 64 17 = some (17, .ifCond .ne 5, 3, 0, 0, 0)) (k_ne' hc2) ?_
      refine mEnds.stp 1 (pc' := 21) (l' := [some (.ref 10), some (.int x1), some (.int x2), some (.int x3), none]) (st' := [.int (-1)]) (fun _ => rfl) ?_
      exact mEnds.rti (Option.some.inj hf) (fun _ => rfl)
    · rw [if_neg hc2] at hf
      refine t_jT (t := 22) (rfl : mfetch 64 17 = some (17, .ifCond .ne 5, 3, 0, 0, 0)) rfl (k_ne hc2) ?_
      refine mEnds.stp 3 (pc' := 25) (l' := [some (.ref 10), some (.int x1), some (.int x2), some (.int x3), none]) (st' := [.int x2, .int (nI 0), .int x3]) (fun _ => rfl) ?_
      by_cases hc3 : x2 = 0
      · rw [if_pos hc3] at hf
        refine t_jF (rfl : mfetch 64 25 = some (25, .ifCond .ne 8, 3, 0, 0, 0)) (k_ne' hc3) ?_
        refine mEnds.stp 2 (pc' := 35) (l' := [some (.ref 10), some (.int x1), some (.int x2), some (.int x3), none]) (st' := [.int (nI 99), .int (nI 0), .int x3]) (fun _ => rfl) ?_
        refine mEnds.cut (l := [some (.ref 10), some (.int x1), some (.int x2), some (.int x3), none]) ⟨rfl, ⟨rfl, ⟨rfl, ⟨rfl, trivial⟩⟩⟩⟩ ?_
        exact ok_C_alter_35 hf
      · rw [if_neg hc3] at hf
        refine t_jT (t := 33) (rfl : mfetch 64 25 = some (25, .ifCond .ne 8, 3, 0, 0, 0)) rfl (k_ne hc3) ?_
        refine mEnds.stp 1 (pc' := 35) (l' := [some (.ref 10), some (.int x1), some (.int x2), some (.int x3), none]) (st' := [.int (nI 9), .int (nI 0), .int x3]) (fun _ => rfl) ?_
        refine mEnds.cut (l := [some (.ref 10), some (.int x1), some (.int x2), some (.int x3), none]) ⟨rfl, ⟨rfl, ⟨rfl, ⟨rfl, trivial⟩⟩⟩⟩ ?_
        exact ok_C_alter_35 hf
def C_fit_57 (x1 : Int32) (x2 : Int32) (x3 : Int32) (y0 : Int32) (s : sg) : Option (Int32 × sg) :=
  (midx x1 6).bind fun j1 =>
  (some (up s 15 j1 x2)).bind fun s1 =>
  (midx x1 6).bind fun j2 =>
  (some (up s1 16 j2 x3)).bind fun s2 =>
  some (y0, s2)
set_option maxRecDepth 100000 in
theorem ok_C_fit_57 {x1 : Int32} {x2 : Int32} {x3 : Int32} {y0 : Int32} {s : sg} {rv : (Int32 × sg)} (hf : C_fit_57 x1 x2 x3 y0 s = some rv) : mEnds [] 1 65 (57, [some (.ref 10), some (.int x1), some (.int x2), some (.int x3), none], [.int y0], hp shC s, 0, 0) (some (.int rv.1), hp shC rv.2, 0, 0) := by
  unfold C_fit_57 at hf
  refine mEnds.stp 2 (pc' := 60) (l' := [some (.ref 10), some (.int x1), some (.int x2), some (.int x3), some (.int y0)]) (st' := [.ref 10]) (fun _ => rfl) ?_
  refine t_gr (rfl : mfetch 65 60 = some (60, .getfield 10, 3, 4, 0, 0)) rfl rfl ?_
  refine t_gr (rfl : mfetch 65 63 = some (63, .getfield 128, 3, 1, 8, 0)) rfl rfl ?_
  refine mEnds.stp 2 (pc' := 68) (l' := [some (.ref 10), some (.int x1), some (.int x2), some (.int x3), some (.int y0)]) (st' := [.int x2, .int x1, .ref 15]) (fun _ => rfl) ?_
  obtain ⟨j1, hj1, hf⟩ := ob hf
  obtain ⟨s1, hs1, hf⟩ := ob hf
  refine t_is (rfl : mfetch 65 68 = some (68, .iastore, 1, 0, 0, 0)) rfl rfl hj1 hs1 ?_
  refine mEnds.stp 1 (pc' := 70) (l' := [some (.ref 10), some (.int x1), some (.int x2), some (.int x3), some (.int y0)]) (st' := [.ref 10]) (fun _ => rfl) ?_
  refine t_gr (rfl : mfetch 65 70 = some (70, .getfield 10, 3, 4, 0, 0)) rfl rfl ?_
  refine t_gr (rfl : mfetch 65 73 = some (73, .getfield 131, 3, 1, 9, 0)) rfl rfl ?_
  refine mEnds.stp 2 (pc' := 78) (l' := [some (.ref 10), some (.int x1), some (.int x2), some (.int x3), some (.int y0)]) (st' := [.int x3, .int x1, .ref 16]) (fun _ => rfl) ?_
  obtain ⟨j2, hj2, hf⟩ := ob hf
  obtain ⟨s2, hs2, hf⟩ := ob hf
  refine t_is (rfl : mfetch 65 78 = some (78, .iastore, 1, 0, 0, 0)) rfl rfl hj2 hs2 ?_
  refine mEnds.stp 1 (pc' := 81) (l' := [some (.ref 10), some (.int x1), some (.int x2), some (.int x3), some (.int y0)]) (st' := [.int y0]) (fun _ => rfl) ?_
  exact mEnds.rti (Option.some.inj hf) (fun _ => rfl)
def C_fit (x1 : Int32) (x2 : Int32) (x3 : Int32) (s : sg) : Option (Int32 × sg) :=
  (H_hasRoom 11 x1 s).bind fun v1 =>
  if v1 = 0 then
    some ((-1), s)
  else
    (C_within x2 (nI 0) (nI 3) s).bind fun v2 =>
    if v2 = 0 then
      some ((-1), s)
    else
      (C_within x3 (nI 0) (nI 99) s).bind fun v3 =>
      if v3 = 0 then
        some ((-1), s)
      else
        (H_hasTongue 11 x1 s).bind fun v4 =>
        if v4 = 0 then
          C_fit_57 x1 x2 x3 (nI 9) s
        else
          (midx x1 6).bind fun j1 =>
          C_fit_57 x1 x2 x3 (s 15 j1) s
set_option maxRecDepth 100000 in
theorem ok_C_fit {x1 : Int32} {x2 : Int32} {x3 : Int32} {s : sg} {rv : (Int32 × sg)} (hf : C_fit x1 x2 x3 s = some rv) : mEnds [] 1 65 (0, [some (.ref 10), some (.int x1), some (.int x2), some (.int x3), none], [], hp shC s, 0, 0) (some (.int rv.1), hp shC rv.2, 0, 0) := by
  unfold C_fit at hf
  refine mEnds.stp 1 (pc' := 1) (l' := [some (.ref 10), some (.int x1), some (.int x2), some (.int x3), none]) (st' := [.ref 10]) (fun _ => rfl) ?_
  refine t_gr (rfl : mfetch 65 1 = some (1, .getfield 10, 3, 4, 0, 0)) rfl rfl ?_
  refine mEnds.stp 1 (pc' := 5) (l' := [some (.ref 10), some (.int x1), some (.int x2), some (.int x3), none]) (st' := [.int x1, .ref 11]) (fun _ => rfl) ?_
  obtain ⟨v1, hv1, hf⟩ := ob hf
  refine t_cv (as := [.int x1]) (st := []) (rfl : mfetch 65 5 = some (5, .invokevirtual 105, 3, 8, 0, 0)) rfl rfl rfl rfl rfl (ok_H_hasRoom isH_11 hv1) ?_
  by_cases hc1 : v1 = 0
  · rw [if_pos hc1] at hf
    refine t_jT (t := 30) (rfl : mfetch 65 8 = some (8, .ifCond .eq 22, 3, 0, 0, 0)) rfl (k_eq hc1) ?_
    refine mEnds.stp 1 (pc' := 31) (l' := [some (.ref 10), some (.int x1), some (.int x2), some (.int x3), none]) (st' := [.int (-1)]) (fun _ => rfl) ?_
    exact mEnds.rti (Option.some.inj hf) (fun _ => rfl)
  · rw [if_neg hc1] at hf
    refine t_jF (rfl : mfetch 65 8 = some (8, .ifCond .eq 22, 3, 0, 0, 0)) (k_eq' hc1) ?_
    refine mEnds.stp 3 (pc' := 14) (l' := [some (.ref 10), some (.int x1), some (.int x2), some (.int x3), none]) (st' := [.int (nI 3), .int (nI 0), .int x2]) (fun _ => rfl) ?_
    obtain ⟨v2, hv2, hf⟩ := ob hf
    refine t_cs (as := [.int x2, .int (nI 0), .int (nI 3)]) (st := []) (Or.inl rfl) (rfl : mfetch 65 14 = some (14, .invokestatic 48, 3, 105, 0, 0)) rfl rfl rfl (ok_C_within hv2) ?_
    by_cases hc2 : v2 = 0
    · rw [if_pos hc2] at hf
      refine t_jT (t := 30) (rfl : mfetch 65 17 = some (17, .ifCond .eq 13, 3, 0, 0, 0)) rfl (k_eq hc2) ?_
      refine mEnds.stp 1 (pc' := 31) (l' := [some (.ref 10), some (.int x1), some (.int x2), some (.int x3), none]) (st' := [.int (-1)]) (fun _ => rfl) ?_
      exact mEnds.rti (Option.some.inj hf) (fun _ => rfl)
    · rw [if_neg hc2] at hf
      refine t_jF (rfl : mfetch 65 17 = some (17, .ifCond .eq 13, 3, 0, 0, 0)) (k_eq' hc2) ?_
      refine mEnds.stp 3 (pc' := 24) (l' := [some (.ref 10), some (.int x1), some (.int x2), some (.int x3), none]) (st' := [.int (nI 99), .int (nI 0), .int x3]) (fun _ => rfl) ?_
      obtain ⟨v3, hv3, hf⟩ := ob hf
      refine t_cs (as := [.int x3, .int (nI 0), .int (nI 99)]) (st := []) (Or.inl rfl) (rfl : mfetch 65 24 = some (24, .invokestatic 48, 3, 105, 0, 0)) rfl rfl rfl (ok_C_within hv3) ?_
      by_cases hc3 : v3 = 0
      · rw [if_pos hc3] at hf
        refine t_jF (rfl : mfetch 65 27 = some (27, .ifCond .ne 5, 3, 0, 0, 0)) (k_ne' hc3) ?_
        refine mEnds.stp 1 (pc' := 31) (l' := [some (.ref 10), some (.int x1), some (.int x2), some (.int x3), none]) (st' := [.int (-1)]) (fun _ => rfl) ?_
        exact mEnds.rti (Option.some.inj hf) (fun _ => rfl)
      · rw [if_neg hc3] at hf
        refine t_jT (t := 32) (rfl : mfetch 65 27 = some (27, .ifCond .ne 5, 3, 0, 0, 0)) rfl (k_ne hc3) ?_
        refine mEnds.stp 1 (pc' := 33) (l' := [some (.ref 10), some (.int x1), some (.int x2), some (.int x3), none]) (st' := [.ref 10]) (fun _ => rfl) ?_
        refine t_gr (rfl : mfetch 65 33 = some (33, .getfield 10, 3, 4, 0, 0)) rfl rfl ?_
        refine mEnds.stp 1 (pc' := 37) (l' := [some (.ref 10), some (.int x1), some (.int x2), some (.int x3), none]) (st' := [.int x1, .ref 11]) (fun _ => rfl) ?_
        obtain ⟨v4, hv4, hf⟩ := ob hf
        refine t_cv (as := [.int x1]) (st := []) (rfl : mfetch 65 37 = some (37, .invokevirtual 121, 3, 10, 0, 0)) rfl rfl rfl rfl rfl (ok_H_hasTongue isH_11 hv4) ?_
        by_cases hc4 : v4 = 0
        · rw [if_pos hc4] at hf
          refine t_jT (t := 55) (rfl : mfetch 65 40 = some (40, .ifCond .eq 15, 3, 0, 0, 0)) rfl (k_eq hc4) ?_
          refine mEnds.stp 1 (pc' := 57) (l' := [some (.ref 10), some (.int x1), some (.int x2), some (.int x3), none]) (st' := [.int (nI 9)]) (fun _ => rfl) ?_
          refine mEnds.cut (l := [some (.ref 10), some (.int x1), some (.int x2), some (.int x3), none]) ⟨rfl, ⟨rfl, ⟨rfl, ⟨rfl, trivial⟩⟩⟩⟩ ?_
          exact ok_C_fit_57 hf
        · rw [if_neg hc4] at hf
          refine t_jF (rfl : mfetch 65 40 = some (40, .ifCond .eq 15, 3, 0, 0, 0)) (k_eq' hc4) ?_
          refine mEnds.stp 1 (pc' := 44) (l' := [some (.ref 10), some (.int x1), some (.int x2), some (.int x3), none]) (st' := [.ref 10]) (fun _ => rfl) ?_
          refine t_gr (rfl : mfetch 65 44 = some (44, .getfield 10, 3, 4, 0, 0)) rfl rfl ?_
          refine t_gr (rfl : mfetch 65 47 = some (47, .getfield 128, 3, 1, 8, 0)) rfl rfl ?_
          refine mEnds.stp 1 (pc' := 51) (l' := [some (.ref 10), some (.int x1), some (.int x2), some (.int x3), none]) (st' := [.int x1, .ref 15]) (fun _ => rfl) ?_
          obtain ⟨j1, hj1, hf⟩ := ob hf
          refine t_ia (rfl : mfetch 65 51 = some (51, .iaload, 1, 0, 0, 0)) rfl rfl hj1 ?_
          refine mEnds.stp 1 (pc' := 57) (l' := [some (.ref 10), some (.int x1), some (.int x2), some (.int x3), none]) (st' := [.int (s 15 j1)]) (fun _ => rfl) ?_
          refine mEnds.cut (l := [some (.ref 10), some (.int x1), some (.int x2), some (.int x3), none]) ⟨rfl, ⟨rfl, ⟨rfl, ⟨rfl, trivial⟩⟩⟩⟩ ?_
          exact ok_C_fit_57 hf
def C_strip (x1 : Int32) (s : sg) : Option (Int32 × sg) :=
  (H_hasRoom 11 x1 s).bind fun v1 =>
  if v1 = 0 then
    some ((-1), s)
  else
    (H_hasTongue 11 x1 s).bind fun v2 =>
    if v2 = 0 then
      some ((-2), s)
    else
      (midx x1 6).bind fun j1 =>
      (H_takeTongue 11 x1 s).bind fun s1 =>
      some (s 15 j1, s1)
set_option maxRecDepth 100000 in
theorem ok_C_strip {x1 : Int32} {s : sg} {rv : (Int32 × sg)} (hf : C_strip x1 s = some rv) : mEnds [] 1 66 (0, [some (.ref 10), some (.int x1), none], [], hp shC s, 0, 0) (some (.int rv.1), hp shC rv.2, 0, 0) := by
  unfold C_strip at hf
  refine mEnds.stp 1 (pc' := 1) (l' := [some (.ref 10), some (.int x1), none]) (st' := [.ref 10]) (fun _ => rfl) ?_
  refine t_gr (rfl : mfetch 66 1 = some (1, .getfield 10, 3, 4, 0, 0)) rfl rfl ?_
  refine mEnds.stp 1 (pc' := 5) (l' := [some (.ref 10), some (.int x1), none]) (st' := [.int x1, .ref 11]) (fun _ => rfl) ?_
  obtain ⟨v1, hv1, hf⟩ := ob hf
  refine t_cv (as := [.int x1]) (st := []) (rfl : mfetch 66 5 = some (5, .invokevirtual 105, 3, 8, 0, 0)) rfl rfl rfl rfl rfl (ok_H_hasRoom isH_11 hv1) ?_
  by_cases hc1 : v1 = 0
  · rw [if_pos hc1] at hf
    refine t_jF (rfl : mfetch 66 8 = some (8, .ifCond .ne 5, 3, 0, 0, 0)) (k_ne' hc1) ?_
    refine mEnds.stp 1 (pc' := 12) (l' := [some (.ref 10), some (.int x1), none]) (st' := [.int (-1)]) (fun _ => rfl) ?_
    exact mEnds.rti (Option.some.inj hf) (fun _ => rfl)
  · rw [if_neg hc1] at hf
    refine t_jT (t := 13) (rfl : mfetch 66 8 = some (8, .ifCond .ne 5, 3, 0, 0, 0)) rfl (k_ne hc1) ?_
    refine mEnds.stp 1 (pc' := 14) (l' := [some (.ref 10), some (.int x1), none]) (st' := [.ref 10]) (fun _ => rfl) ?_
    refine t_gr (rfl : mfetch 66 14 = some (14, .getfield 10, 3, 4, 0, 0)) rfl rfl ?_
    refine mEnds.stp 1 (pc' := 18) (l' := [some (.ref 10), some (.int x1), none]) (st' := [.int x1, .ref 11]) (fun _ => rfl) ?_
    obtain ⟨v2, hv2, hf⟩ := ob hf
    refine t_cv (as := [.int x1]) (st := []) (rfl : mfetch 66 18 = some (18, .invokevirtual 121, 3, 10, 0, 0)) rfl rfl rfl rfl rfl (ok_H_hasTongue isH_11 hv2) ?_
    by_cases hc2 : v2 = 0
    · rw [if_pos hc2] at hf
      refine t_jF (rfl : mfetch 66 21 = some (21, .ifCond .ne 6, 3, 0, 0, 0)) (k_ne' hc2) ?_
      refine mEnds.stp 1 (pc' := 26) (l' := [some (.ref 10), some (.int x1), none]) (st' := [.int (-2)]) (fun _ => rfl) ?_
      exact mEnds.rti (Option.some.inj hf) (fun _ => rfl)
    · rw [if_neg hc2] at hf
      refine t_jT (t := 27) (rfl : mfetch 66 21 = some (21, .ifCond .ne 6, 3, 0, 0, 0)) rfl (k_ne hc2) ?_
      refine mEnds.stp 1 (pc' := 28) (l' := [some (.ref 10), some (.int x1), none]) (st' := [.ref 10]) (fun _ => rfl) ?_
      refine t_gr (rfl : mfetch 66 28 = some (28, .getfield 10, 3, 4, 0, 0)) rfl rfl ?_
      refine t_gr (rfl : mfetch 66 31 = some (31, .getfield 128, 3, 1, 8, 0)) rfl rfl ?_
      refine mEnds.stp 1 (pc' := 35) (l' := [some (.ref 10), some (.int x1), none]) (st' := [.int x1, .ref 15]) (fun _ => rfl) ?_
      obtain ⟨j1, hj1, hf⟩ := ob hf
      refine t_ia (rfl : mfetch 66 35 = some (35, .iaload, 1, 0, 0, 0)) rfl rfl hj1 ?_
      refine mEnds.stp 2 (pc' := 38) (l' := [some (.ref 10), some (.int x1), some (.int (s 15 j1))]) (st' := [.ref 10]) (fun _ => rfl) ?_
      refine t_gr (rfl : mfetch 66 38 = some (38, .getfield 10, 3, 4, 0, 0)) rfl rfl ?_
      refine mEnds.stp 1 (pc' := 42) (l' := [some (.ref 10), some (.int x1), some (.int (s 15 j1))]) (st' := [.int x1, .ref 11]) (fun _ => rfl) ?_
      obtain ⟨s1, hs1, hf⟩ := ob hf
      refine t_cv (as := [.int x1]) (st := []) (rfl : mfetch 66 42 = some (42, .invokevirtual 154, 3, 20, 0, 0)) rfl rfl rfl rfl rfl (ok_H_takeTongue isH_11 hs1) ?_
      refine mEnds.stp 1 (pc' := 46) (l' := [some (.ref 10), some (.int x1), some (.int (s 15 j1))]) (st' := [.int (s 15 j1)]) (fun _ => rfl) ?_
      exact mEnds.rti (Option.some.inj hf) (fun _ => rfl)
def C_mark (x1 : Int32) (x2 : Int32) (s : sg) : Option (Int32 × sg) :=
  (H_markRefused 11 x1 x2 s).bind fun v1 =>
  if v1 = 0 then
    (C_exchange 16 6 x1 x2 s).bind fun v2 =>
    some (v2.1, v2.2)
  else
    some (v1, s)
set_option maxRecDepth 100000 in
theorem ok_C_mark {x1 : Int32} {x2 : Int32} {s : sg} {rv : (Int32 × sg)} (hf : C_mark x1 x2 s = some rv) : mEnds [] 2 67 (0, [some (.ref 10), some (.int x1), some (.int x2), none], [], hp shC s, 0, 0) (some (.int rv.1), hp shC rv.2, 0, 0) := by
  unfold C_mark at hf
  refine mEnds.stp 1 (pc' := 1) (l' := [some (.ref 10), some (.int x1), some (.int x2), none]) (st' := [.ref 10]) (fun _ => rfl) ?_
  refine t_gr (rfl : mfetch 67 1 = some (1, .getfield 10, 3, 4, 0, 0)) rfl rfl ?_
  refine mEnds.stp 2 (pc' := 6) (l' := [some (.ref 10), some (.int x1), some (.int x2), none]) (st' := [.int x2, .int x1, .ref 11]) (fun _ => rfl) ?_
  obtain ⟨v1, hv1, hf⟩ := ob hf
  refine t_cv (as := [.int x1, .int x2]) (st := []) (rfl : mfetch 67 6 = some (6, .invokevirtual 158, 3, 18, 0, 0)) rfl rfl rfl rfl rfl (ok_H_markRefused isH_11 hv1) ?_
  refine mEnds.stp 2 (pc' := 11) (l' := [some (.ref 10), some (.int x1), some (.int x2), some (.int v1)]) (st' := [.int v1]) (fun _ => rfl) ?_
  by_cases hc1 : v1 = 0
  · rw [if_pos hc1] at hf
    refine t_jT (t := 18) (rfl : mfetch 67 11 = some (11, .ifCond .eq 7, 3, 0, 0, 0)) rfl (k_eq hc1) ?_
    refine mEnds.stp 1 (pc' := 19) (l' := [some (.ref 10), some (.int x1), some (.int x2), some (.int v1)]) (st' := [.ref 10]) (fun _ => rfl) ?_
    refine t_gr (rfl : mfetch 67 19 = some (19, .getfield 10, 3, 4, 0, 0)) rfl rfl ?_
    refine t_gr (rfl : mfetch 67 22 = some (22, .getfield 131, 3, 1, 9, 0)) rfl rfl ?_
    refine mEnds.stp 2 (pc' := 27) (l' := [some (.ref 10), some (.int x1), some (.int x2), some (.int v1)]) (st' := [.int x2, .int x1, .ref 16]) (fun _ => rfl) ?_
    obtain ⟨v2, hv2, hf⟩ := ob hf
    refine t_cs (as := [.ref 16, .int x1, .int x2]) (st := []) (Or.inl rfl) (rfl : mfetch 67 27 = some (27, .invokestatic 150, 3, 107, 0, 0)) rfl rfl rfl ((ok_C_exchange rfl rfl hv2).deep 1) ?_
    exact mEnds.rti (Option.some.inj hf) (fun _ => rfl)
  · rw [if_neg hc1] at hf
    refine t_jF (rfl : mfetch 67 11 = some (11, .ifCond .eq 7, 3, 0, 0, 0)) (k_eq' hc1) ?_
    refine mEnds.stp 2 (pc' := 30) (l' := [some (.ref 10), some (.int x1), some (.int x2), some (.int v1)]) (st' := [.int v1]) (fun _ => rfl) ?_
    exact mEnds.rti (Option.some.inj hf) (fun _ => rfl)
def C_lag (x1 : Int32) (x2 : Int32) (s : sg) : Option (Int32 × sg) :=
  (H_hasWall 11 x1 s).bind fun v1 =>
  if v1 = 0 then
    some ((-1), s)
  else
    (C_within x2 (nI 0) (nI 9) s).bind fun v2 =>
    if v2 = 0 then
      some ((-1), s)
    else
      (C_exchange 17 5 x1 x2 s).bind fun v3 =>
      some (v3.1, v3.2)
set_option maxRecDepth 100000 in
theorem ok_C_lag {x1 : Int32} {x2 : Int32} {s : sg} {rv : (Int32 × sg)} (hf : C_lag x1 x2 s = some rv) : mEnds [] 1 68 (0, [some (.ref 10), some (.int x1), some (.int x2)], [], hp shC s, 0, 0) (some (.int rv.1), hp shC rv.2, 0, 0) := by
  unfold C_lag at hf
  refine mEnds.stp 1 (pc' := 1) (l' := [some (.ref 10), some (.int x1), some (.int x2)]) (st' := [.ref 10]) (fun _ => rfl) ?_
  refine t_gr (rfl : mfetch 68 1 = some (1, .getfield 10, 3, 4, 0, 0)) rfl rfl ?_
  refine mEnds.stp 1 (pc' := 5) (l' := [some (.ref 10), some (.int x1), some (.int x2)]) (st' := [.int x1, .ref 11]) (fun _ => rfl) ?_
  obtain ⟨v1, hv1, hf⟩ := ob hf
  refine t_cv (as := [.int x1]) (st := []) (rfl : mfetch 68 5 = some (5, .invokevirtual 141, 3, 9, 0, 0)) rfl rfl rfl rfl rfl (ok_H_hasWall isH_11 hv1) ?_
  by_cases hc1 : v1 = 0
  · rw [if_pos hc1] at hf
    refine t_jT (t := 21) (rfl : mfetch 68 8 = some (8, .ifCond .eq 13, 3, 0, 0, 0)) rfl (k_eq hc1) ?_
    refine mEnds.stp 1 (pc' := 22) (l' := [some (.ref 10), some (.int x1), some (.int x2)]) (st' := [.int (-1)]) (fun _ => rfl) ?_
    exact mEnds.rti (Option.some.inj hf) (fun _ => rfl)
  · rw [if_neg hc1] at hf
    refine t_jF (rfl : mfetch 68 8 = some (8, .ifCond .eq 13, 3, 0, 0, 0)) (k_eq' hc1) ?_
    refine mEnds.stp 3 (pc' := 15) (l' := [some (.ref 10), some (.int x1), some (.int x2)]) (st' := [.int (nI 9), .int (nI 0), .int x2]) (fun _ => rfl) ?_
    obtain ⟨v2, hv2, hf⟩ := ob hf
    refine t_cs (as := [.int x2, .int (nI 0), .int (nI 9)]) (st := []) (Or.inl rfl) (rfl : mfetch 68 15 = some (15, .invokestatic 48, 3, 105, 0, 0)) rfl rfl rfl (ok_C_within hv2) ?_
    by_cases hc2 : v2 = 0
    · rw [if_pos hc2] at hf
      refine t_jF (rfl : mfetch 68 18 = some (18, .ifCond .ne 5, 3, 0, 0, 0)) (k_ne' hc2) ?_
      refine mEnds.stp 1 (pc' := 22) (l' := [some (.ref 10), some (.int x1), some (.int x2)]) (st' := [.int (-1)]) (fun _ => rfl) ?_
      exact mEnds.rti (Option.some.inj hf) (fun _ => rfl)
    · rw [if_neg hc2] at hf
      refine t_jT (t := 23) (rfl : mfetch 68 18 = some (18, .ifCond .ne 5, 3, 0, 0, 0)) rfl (k_ne hc2) ?_
      refine mEnds.stp 1 (pc' := 24) (l' := [some (.ref 10), some (.int x1), some (.int x2)]) (st' := [.ref 10]) (fun _ => rfl) ?_
      refine t_gr (rfl : mfetch 68 24 = some (24, .getfield 10, 3, 4, 0, 0)) rfl rfl ?_
      refine t_gr (rfl : mfetch 68 27 = some (27, .getfield 144, 3, 1, 10, 0)) rfl rfl ?_
      refine mEnds.stp 2 (pc' := 32) (l' := [some (.ref 10), some (.int x1), some (.int x2)]) (st' := [.int x2, .int x1, .ref 17]) (fun _ => rfl) ?_
      obtain ⟨v3, hv3, hf⟩ := ob hf
      refine t_cs (as := [.ref 17, .int x1, .int x2]) (st := []) (Or.inl rfl) (rfl : mfetch 68 32 = some (32, .invokestatic 150, 3, 107, 0, 0)) rfl rfl rfl (ok_C_exchange rfl rfl hv3) ?_
      exact mEnds.rti (Option.some.inj hf) (fun _ => rfl)
def C_sky (x1 : Int32) (x2 : Int32) (s : sg) : Option (Int32 × sg) :=
  (C_within x1 (nI 0) (nI 7) s).bind fun v1 =>
  if v1 = 0 then
    some ((-1), s)
  else
    (C_within x2 (nI 0) (nI 99) s).bind fun v2 =>
    if v2 = 0 then
      some ((-1), s)
    else
      (C_exchange 18 8 x1 x2 s).bind fun v3 =>
      some (v3.1, v3.2)
set_option maxRecDepth 100000 in
theorem ok_C_sky {x1 : Int32} {x2 : Int32} {s : sg} {rv : (Int32 × sg)} (hf : C_sky x1 x2 s = some rv) : mEnds [] 1 69 (0, [some (.ref 10), some (.int x1), some (.int x2)], [], hp shC s, 0, 0) (some (.int rv.1), hp shC rv.2, 0, 0) := by
  unfold C_sky at hf
  refine mEnds.stp 3 (pc' := 4) (l' := [some (.ref 10), some (.int x1), some (.int x2)]) (st' := [.int (nI 7), .int (nI 0), .int x1]) (fun _ => rfl) ?_
  obtain ⟨v1, hv1, hf⟩ := ob hf
  refine t_cs (as := [.int x1, .int (nI 0), .int (nI 7)]) (st := []) (Or.inl rfl) (rfl : mfetch 69 4 = some (4, .invokestatic 48, 3, 105, 0, 0)) rfl rfl rfl (ok_C_within hv1) ?_
  by_cases hc1 : v1 = 0
  · rw [if_pos hc1] at hf
    refine t_jT (t := 20) (rfl : mfetch 69 7 = some (7, .ifCond .eq 13, 3, 0, 0, 0)) rfl (k_eq hc1) ?_
    refine mEnds.stp 1 (pc' := 21) (l' := [some (.ref 10), some (.int x1), some (.int x2)]) (st' := [.int (-1)]) (fun _ => rfl) ?_
    exact mEnds.rti (Option.some.inj hf) (fun _ => rfl)
  · rw [if_neg hc1] at hf
    refine t_jF (rfl : mfetch 69 7 = some (7, .ifCond .eq 13, 3, 0, 0, 0)) (k_eq' hc1) ?_
    refine mEnds.stp 3 (pc' := 14) (l' := [some (.ref 10), some (.int x1), some (.int x2)]) (st' := [.int (nI 99), .int (nI 0), .int x2]) (fun _ => rfl) ?_
    obtain ⟨v2, hv2, hf⟩ := ob hf
    refine t_cs (as := [.int x2, .int (nI 0), .int (nI 99)]) (st := []) (Or.inl rfl) (rfl : mfetch 69 14 = some (14, .invokestatic 48, 3, 105, 0, 0)) rfl rfl rfl (ok_C_within hv2) ?_
    by_cases hc2 : v2 = 0
    · rw [if_pos hc2] at hf
      refine t_jF (rfl : mfetch 69 17 = some (17, .ifCond .ne 5, 3, 0, 0, 0)) (k_ne' hc2) ?_
      refine mEnds.stp 1 (pc' := 21) (l' := [some (.ref 10), some (.int x1), some (.int x2)]) (st' := [.int (-1)]) (fun _ => rfl) ?_
      exact mEnds.rti (Option.some.inj hf) (fun _ => rfl)
    · rw [if_neg hc2] at hf
      refine t_jT (t := 22) (rfl : mfetch 69 17 = some (17, .ifCond .ne 5, 3, 0, 0, 0)) rfl (k_ne hc2) ?_
      refine mEnds.stp 1 (pc' := 23) (l' := [some (.ref 10), some (.int x1), some (.int x2)]) (st' := [.ref 10]) (fun _ => rfl) ?_
      refine t_gr (rfl : mfetch 69 23 = some (23, .getfield 10, 3, 4, 0, 0)) rfl rfl ?_
      refine t_gr (rfl : mfetch 69 26 = some (26, .getfield 147, 3, 1, 11, 0)) rfl rfl ?_
      refine mEnds.stp 2 (pc' := 31) (l' := [some (.ref 10), some (.int x1), some (.int x2)]) (st' := [.int x2, .int x1, .ref 18]) (fun _ => rfl) ?_
      obtain ⟨v3, hv3, hf⟩ := ob hf
      refine t_cs (as := [.ref 18, .int x1, .int x2]) (st := []) (Or.inl rfl) (rfl : mfetch 69 31 = some (31, .invokestatic 150, 3, 107, 0, 0)) rfl rfl rfl (ok_C_exchange rfl rfl hv3) ?_
      exact mEnds.rti (Option.some.inj hf) (fun _ => rfl)
def C_hours (x1 : Int32) (s : sg) : Option (Int32 × sg) :=
  (C_within x1 (nI 0) (nI 48) s).bind fun v1 =>
  if v1 = 0 then
    some ((-1), s)
  else
    if nI 999 < (s 11 2) + x1 then
      some ((-3), s)
    else
      (H_passHours 11 x1 s).bind fun v2 =>
      some (v2.1, v2.2)
set_option maxRecDepth 100000 in
theorem ok_C_hours {x1 : Int32} {s : sg} {rv : (Int32 × sg)} (hf : C_hours x1 s = some rv) : mEnds [] 5 70 (0, [some (.ref 10), some (.int x1)], [], hp shC s, 0, 0) (some (.int rv.1), hp shC rv.2, 0, 0) := by
  unfold C_hours at hf
  refine mEnds.stp 3 (pc' := 4) (l' := [some (.ref 10), some (.int x1)]) (st' := [.int (nI 48), .int (nI 0), .int x1]) (fun _ => rfl) ?_
  obtain ⟨v1, hv1, hf⟩ := ob hf
  refine t_cs (as := [.int x1, .int (nI 0), .int (nI 48)]) (st := []) (Or.inl rfl) (rfl : mfetch 70 4 = some (4, .invokestatic 48, 3, 105, 0, 0)) rfl rfl rfl ((ok_C_within hv1).deep 4) ?_
  by_cases hc1 : v1 = 0
  · rw [if_pos hc1] at hf
    refine t_jF (rfl : mfetch 70 7 = some (7, .ifCond .ne 5, 3, 0, 0, 0)) (k_ne' hc1) ?_
    refine mEnds.stp 1 (pc' := 11) (l' := [some (.ref 10), some (.int x1)]) (st' := [.int (-1)]) (fun _ => rfl) ?_
    exact mEnds.rti (Option.some.inj hf) (fun _ => rfl)
  · rw [if_neg hc1] at hf
    refine t_jT (t := 12) (rfl : mfetch 70 7 = some (7, .ifCond .ne 5, 3, 0, 0, 0)) rfl (k_ne hc1) ?_
    refine mEnds.stp 1 (pc' := 13) (l' := [some (.ref 10), some (.int x1)]) (st' := [.ref 10]) (fun _ => rfl) ?_
    refine t_gr (rfl : mfetch 70 13 = some (13, .getfield 10, 3, 4, 0, 0)) rfl rfl ?_
    refine t_gi (rfl : mfetch 70 16 = some (16, .getfield 86, 3, 1, 2, 0)) rfl rfl ?_
    refine mEnds.stp 3 (pc' := 24) (l' := [some (.ref 10), some (.int x1)]) (st' := [.int (nI 999), .int ((s 11 2) + x1)]) (fun _ => rfl) ?_
    by_cases hc2 : nI 999 < (s 11 2) + x1
    · rw [if_pos hc2] at hf
      refine t_cF (rfl : mfetch 70 24 = some (24, .if_icmp .le 6, 3, 0, 0, 0)) (k_le' hc2) ?_
      refine mEnds.stp 1 (pc' := 29) (l' := [some (.ref 10), some (.int x1)]) (st' := [.int (-3)]) (fun _ => rfl) ?_
      exact mEnds.rti (Option.some.inj hf) (fun _ => rfl)
    · rw [if_neg hc2] at hf
      refine t_cT (t := 30) (rfl : mfetch 70 24 = some (24, .if_icmp .le 6, 3, 0, 0, 0)) rfl (k_le hc2) ?_
      refine mEnds.stp 1 (pc' := 31) (l' := [some (.ref 10), some (.int x1)]) (st' := [.ref 10]) (fun _ => rfl) ?_
      refine t_gr (rfl : mfetch 70 31 = some (31, .getfield 10, 3, 4, 0, 0)) rfl rfl ?_
      refine mEnds.stp 1 (pc' := 35) (l' := [some (.ref 10), some (.int x1)]) (st' := [.int x1, .ref 11]) (fun _ => rfl) ?_
      obtain ⟨v2, hv2, hf⟩ := ob hf
      refine t_cv (as := [.int x1]) (st := []) (rfl : mfetch 70 35 = some (35, .invokevirtual 161, 3, 22, 0, 0)) rfl rfl rfl rfl rfl (ok_H_passHours isH_11 hv2) ?_
      exact mEnds.rti (Option.some.inj hf) (fun _ => rfl)
def C_copyOfNow (s : sg) : Option sg :=
  (H_copyFrom 53 11 s).bind fun s1 =>
  some s1
set_option maxRecDepth 100000 in
theorem ok_C_copyOfNow {s : sg} {rv : sg} (hf : C_copyOfNow s = some rv) : mEnds [] 1 109 (0, [some (.ref 10)], [], hp shC s, 0, 0) (some (.ref 53), hp shC rv, 0, 0) := by
  unfold C_copyOfNow at hf
  refine mEnds.stp 1 (pc' := 1) (l' := [some (.ref 10)]) (st' := [.ref 10]) (fun _ => rfl) ?_
  refine t_gr (rfl : mfetch 109 1 = some (1, .getfield 24, 3, 4, 3, 0)) rfl rfl ?_
  refine mEnds.stp 1 (pc' := 5) (l' := [some (.ref 10)]) (st' := [.int (nI 0), .ref 21]) (fun _ => rfl) ?_
  refine t_aa (j := 0) (rfl : mfetch 109 5 = some (5, .aaload, 1, 0, 0, 0)) rfl rfl rfl rfl rfl ?_
  refine mEnds.stp 1 (pc' := 7) (l' := [some (.ref 10)]) (st' := [.ref 10, .ref 53]) (fun _ => rfl) ?_
  refine t_gr (rfl : mfetch 109 7 = some (7, .getfield 10, 3, 4, 0, 0)) rfl rfl ?_
  obtain ⟨s1, hs1, hf⟩ := ob hf
  refine t_cv (as := [.ref 11]) (st := []) (rfl : mfetch 109 10 = some (10, .invokevirtual 70, 3, 7, 0, 0)) rfl rfl rfl rfl rfl (ok_H_copyFrom isH_53 isH_11 hs1) ?_
  refine mEnds.stp 1 (pc' := 14) (l' := [some (.ref 10)]) (st' := [.ref 10]) (fun _ => rfl) ?_
  refine t_gr (rfl : mfetch 109 14 = some (14, .getfield 24, 3, 4, 3, 0)) rfl rfl ?_
  refine mEnds.stp 1 (pc' := 18) (l' := [some (.ref 10)]) (st' := [.int (nI 0), .ref 21]) (fun _ => rfl) ?_
  refine t_aa (j := 0) (rfl : mfetch 109 18 = some (18, .aaload, 1, 0, 0, 0)) rfl rfl rfl rfl rfl ?_
  cases hf; exact mEnds.rt (fun _ => rfl)
def C_coldestWithin_13 (x1 : Int32) : Nat → Int32 → Int32 → sg → Option (Int32 × sg)
  | 0, _, _, _ => none
  | fu + 1, x3, x4, s =>
  if x4 < x1 then
    (H_passHour 53 s).bind fun s1 =>
    (H_coldestNow 53 s1).bind fun v2 =>
    C_coldestWithin_13 x1 fu (if v2 < x3 then v2 else x3) (x4 + (nI 1)) s1
  else
    some (x3, s)
set_option maxRecDepth 100000 in
theorem ok_C_coldestWithin_13 {x1 : Int32} : ∀ (fu : Nat) (x3 : Int32) (x4 : Int32) (s : sg) (rv : (Int32 × sg)), C_coldestWithin_13 x1 fu x3 x4 s = some rv → mEnds [] 4 72 (13, [none, some (.int x1), some (.ref 53), some (.int x3), some (.int x4)], [], hp shC s, 0, 0) (some (.int rv.1), hp shC rv.2, 0, 0)
  | 0, _, _, _, _, hf => by cases hf
  | fu + 1, x3, x4, s, rv, hf => by
    rw [C_coldestWithin_13] at hf
    refine mEnds.stp 2 (pc' := 16) (l' := [none, some (.int x1), some (.ref 53), some (.int x3), some (.int x4)]) (st' := [.int x1, .int x4]) (fun _ => rfl) ?_
    by_cases hc1 : x4 < x1
    · rw [if_pos hc1] at hf
      refine t_cF (rfl : mfetch 72 16 = some (16, .if_icmp .ge 22, 3, 0, 0, 0)) (k_ge' hc1) ?_
      refine mEnds.stp 1 (pc' := 20) (l' := [none, some (.int x1), some (.ref 53), some (.int x3), some (.int x4)]) (st' := [.ref 53]) (fun _ => rfl) ?_
      obtain ⟨s1, hs1, hf⟩ := ob hf
      refine t_cv (as := []) (st := []) (rfl : mfetch 72 20 = some (20, .invokevirtual 174, 3, 23, 0, 0)) rfl rfl rfl rfl rfl (ok_H_passHour isH_53 hs1) ?_
      refine mEnds.stp 2 (pc' := 25) (l' := [none, some (.int x1), some (.ref 53), some (.int x3), some (.int x4)]) (st' := [.ref 53, .int x3]) (fun _ => rfl) ?_
      obtain ⟨v2, hv2, hf⟩ := ob hf
      refine t_cv (as := []) (st := [.int x3]) (rfl : mfetch 72 25 = some (25, .invokevirtual 171, 3, 16, 0, 0)) rfl rfl rfl rfl rfl ((ok_H_coldestNow isH_53 hv2).deep 3) ?_
      refine mEnds.stp 4 (pc' := 13) (l' := [none, some (.int x1), some (.ref 53), some (.int (if v2 < x3 then v2 else x3)), some (.int (x4 + (nI 1)))]) (st' := []) (fun _ => rfl) ?_
      refine mEnds.cut (l := [none, some (.int x1), some (.ref 53), some (.int (if v2 < x3 then v2 else x3)), some (.int (x4 + (nI 1)))]) ⟨rfl, ⟨rfl, ⟨rfl, ⟨rfl, trivial⟩⟩⟩⟩ ?_
      exact ok_C_coldestWithin_13 fu (if v2 < x3 then v2 else x3) (x4 + (nI 1)) s1 _ hf
    · rw [if_neg hc1] at hf
      refine t_cT (t := 38) (rfl : mfetch 72 16 = some (16, .if_icmp .ge 22, 3, 0, 0, 0)) rfl (k_ge hc1) ?_
      refine mEnds.stp 1 (pc' := 39) (l' := [none, some (.int x1), some (.ref 53), some (.int x3), some (.int x4)]) (st' := [.int x3]) (fun _ => rfl) ?_
      exact mEnds.rti (Option.some.inj hf) (fun _ => rfl)
def C_coldestWithin (x1 : Int32) (s : sg) : Option (Int32 × sg) :=
  (C_copyOfNow s).bind fun s1 =>
  (H_coldestNow 53 s1).bind fun v2 =>
  C_coldestWithin_13 x1 FU v2 (nI 0) s1
set_option maxRecDepth 100000 in
theorem ok_C_coldestWithin {x1 : Int32} {s : sg} {rv : (Int32 × sg)} (hf : C_coldestWithin x1 s = some rv) : mEnds [] 4 72 (0, [some (.ref 10), some (.int x1), none, none, none], [], hp shC s, 0, 0) (some (.int rv.1), hp shC rv.2, 0, 0) := by
  unfold C_coldestWithin at hf
  refine mEnds.stp 1 (pc' := 1) (l' := [some (.ref 10), some (.int x1), none, none, none]) (st' := [.ref 10]) (fun _ => rfl) ?_
  obtain ⟨s1, hs1, hf⟩ := ob hf
  refine t_cv (as := []) (st := []) (rfl : mfetch 72 1 = some (1, .invokevirtual 167, 3, 109, 0, 0)) rfl rfl rfl rfl rfl ((ok_C_copyOfNow hs1).deep 2) ?_
  refine mEnds.stp 2 (pc' := 6) (l' := [some (.ref 10), some (.int x1), some (.ref 53), none, none]) (st' := [.ref 53]) (fun _ => rfl) ?_
  obtain ⟨v2, hv2, hf⟩ := ob hf
  refine t_cv (as := []) (st := []) (rfl : mfetch 72 6 = some (6, .invokevirtual 171, 3, 16, 0, 0)) rfl rfl rfl rfl rfl ((ok_H_coldestNow isH_53 hv2).deep 3) ?_
  refine mEnds.stp 3 (pc' := 13) (l' := [some (.ref 10), some (.int x1), some (.ref 53), some (.int v2), some (.int (nI 0))]) (st' := []) (fun _ => rfl) ?_
  refine mEnds.cut (l := [none, some (.int x1), some (.ref 53), some (.int v2), some (.int (nI 0))]) ⟨rfl, ⟨rfl, ⟨rfl, ⟨rfl, trivial⟩⟩⟩⟩ ?_
  exact ok_C_coldestWithin_13 FU v2 (nI 0) s1 _ hf
def C_runs (x1 : Int32) (x2 : Int32) (s : sg) : Option (Int32 × sg) :=
  (C_within x1 (nI 0) (nI 60) s).bind fun v1 =>
  if v1 = 0 then
    some ((-1), s)
  else
    (C_within x2 (nI 0) (nI 4) s).bind fun v2 =>
    if v2 = 0 then
      some ((-1), s)
    else
      if x2 = nI 3 then
        if s 11 0 = 0 then
          some ((-4), s)
        else
          (C_coldestWithin x1 s).bind fun v6 =>
          some (v6.1, v6.2)
      else
        (C_copyOfNow s).bind fun s1 =>
        (H_passHours 53 x1 s1).bind fun v4 =>
        if x2 = nI 0 then
          some (v4.1, v4.2)
        else
          if x2 = nI 1 then
            some ((v4.2 53 4) - (v4.2 11 4), v4.2)
          else
            if x2 = nI 2 then
              (H_warmthOfAll 53 v4.2).bind fun v5 =>
              some (v5, v4.2)
            else
              some (v4.2 53 1, v4.2)
set_option maxRecDepth 100000 in
theorem ok_C_runs {x1 : Int32} {x2 : Int32} {s : sg} {rv : (Int32 × sg)} (hf : C_runs x1 x2 s = some rv) : mEnds [] 5 71 (0, [some (.ref 10), some (.int x1), some (.int x2), none, none], [], hp shC s, 0, 0) (some (.int rv.1), hp shC rv.2, 0, 0) := by
  unfold C_runs at hf
  refine mEnds.stp 3 (pc' := 4) (l' := [some (.ref 10), some (.int x1), some (.int x2), none, none]) (st' := [.int (nI 60), .int (nI 0), .int x1]) (fun _ => rfl) ?_
  obtain ⟨v1, hv1, hf⟩ := ob hf
  refine t_cs (as := [.int x1, .int (nI 0), .int (nI 60)]) (st := []) (Or.inl rfl) (rfl : mfetch 71 4 = some (4, .invokestatic 48, 3, 105, 0, 0)) rfl rfl rfl ((ok_C_within hv1).deep 4) ?_
  by_cases hc1 : v1 = 0
  · rw [if_pos hc1] at hf
    refine t_jT (t := 19) (rfl : mfetch 71 7 = some (7, .ifCond .eq 12, 3, 0, 0, 0)) rfl (k_eq hc1) ?_
    refine mEnds.stp 1 (pc' := 20) (l' := [some (.ref 10), some (.int x1), some (.int x2), none, none]) (st' := [.int (-1)]) (fun _ => rfl) ?_
    exact mEnds.rti (Option.some.inj hf) (fun _ => rfl)
  · rw [if_neg hc1] at hf
    refine t_jF (rfl : mfetch 71 7 = some (7, .ifCond .eq 12, 3, 0, 0, 0)) (k_eq' hc1) ?_
    refine mEnds.stp 3 (pc' := 13) (l' := [some (.ref 10), some (.int x1), some (.int x2), none, none]) (st' := [.int (nI 4), .int (nI 0), .int x2]) (fun _ => rfl) ?_
    obtain ⟨v2, hv2, hf⟩ := ob hf
    refine t_cs (as := [.int x2, .int (nI 0), .int (nI 4)]) (st := []) (Or.inl rfl) (rfl : mfetch 71 13 = some (13, .invokestatic 48, 3, 105, 0, 0)) rfl rfl rfl ((ok_C_within hv2).deep 4) ?_
    by_cases hc2 : v2 = 0
    · rw [if_pos hc2] at hf
      refine t_jF (rfl : mfetch 71 16 = some (16, .ifCond .ne 5, 3, 0, 0, 0)) (k_ne' hc2) ?_
      refine mEnds.stp 1 (pc' := 20) (l' := [some (.ref 10), some (.int x1), some (.int x2), none, none]) (st' := [.int (-1)]) (fun _ => rfl) ?_
      exact mEnds.rti (Option.some.inj hf) (fun _ => rfl)
    · rw [if_neg hc2] at hf
      refine t_jT (t := 21) (rfl : mfetch 71 16 = some (16, .ifCond .ne 5, 3, 0, 0, 0)) rfl (k_ne hc2) ?_
      refine mEnds.stp 2 (pc' := 23) (l' := [some (.ref 10), some (.int x1), some (.int x2), none, none]) (st' := [.int (nI 3), .int x2]) (fun _ => rfl) ?_
      by_cases hc3 : x2 = nI 3
      · rw [if_pos hc3] at hf
        refine t_cF (rfl : mfetch 71 23 = some (23, .if_icmp .ne 24, 3, 0, 0, 0)) (k_ne' hc3) ?_
        refine mEnds.stp 1 (pc' := 27) (l' := [some (.ref 10), some (.int x1), some (.int x2), none, none]) (st' := [.ref 10]) (fun _ => rfl) ?_
        refine t_gr (rfl : mfetch 71 27 = some (27, .getfield 10, 3, 4, 0, 0)) rfl rfl ?_
        refine t_gi (rfl : mfetch 71 30 = some (30, .getfield 83, 3, 1, 0, 0)) rfl rfl ?_
        by_cases hc7 : s 11 0 = 0
        · rw [if_pos hc7] at hf
          refine t_jF (rfl : mfetch 71 33 = some (33, .ifCond .ne 8, 3, 0, 0, 0)) (k_ne' hc7) ?_
          refine mEnds.stp 2 (pc' := 46) (l' := [some (.ref 10), some (.int x1), some (.int x2), none, none]) (st' := [.int (-4)]) (fun _ => rfl) ?_
          exact mEnds.rti (Option.some.inj hf) (fun _ => rfl)
        · rw [if_neg hc7] at hf
          refine t_jT (t := 41) (rfl : mfetch 71 33 = some (33, .ifCond .ne 8, 3, 0, 0, 0)) rfl (k_ne hc7) ?_
          refine mEnds.stp 2 (pc' := 43) (l' := [some (.ref 10), some (.int x1), some (.int x2), none, none]) (st' := [.int x1, .ref 10]) (fun _ => rfl) ?_
          obtain ⟨v6, hv6, hf⟩ := ob hf
          refine t_cv (as := [.int x1]) (st := []) (rfl : mfetch 71 43 = some (43, .invokevirtual 164, 3, 72, 0, 0)) rfl rfl rfl rfl rfl (ok_C_coldestWithin hv6) ?_
          exact mEnds.rti (Option.some.inj hf) (fun _ => rfl)
      · rw [if_neg hc3] at hf
        refine t_cT (t := 47) (rfl : mfetch 71 23 = some (23, .if_icmp .ne 24, 3, 0, 0, 0)) rfl (k_ne hc3) ?_
        refine mEnds.stp 1 (pc' := 48) (l' := [some (.ref 10), some (.int x1), some (.int x2), none, none]) (st' := [.ref 10]) (fun _ => rfl) ?_
        obtain ⟨s1, hs1, hf⟩ := ob hf
        refine t_cv (as := []) (st := []) (rfl : mfetch 71 48 = some (48, .invokevirtual 167, 3, 109, 0, 0)) rfl rfl rfl rfl rfl ((ok_C_copyOfNow hs1).deep 3) ?_
        refine mEnds.stp 3 (pc' := 54) (l' := [some (.ref 10), some (.int x1), some (.int x2), some (.ref 53), none]) (st' := [.int x1, .ref 53]) (fun _ => rfl) ?_
        obtain ⟨v4, hv4, hf⟩ := ob hf
        refine t_cv (as := [.int x1]) (st := []) (rfl : mfetch 71 54 = some (54, .invokevirtual 161, 3, 22, 0, 0)) rfl rfl rfl rfl rfl (ok_H_passHours isH_53 hv4) ?_
        refine mEnds.stp 2 (pc' := 60) (l' := [some (.ref 10), some (.int x1), some (.int x2), some (.ref 53), some (.int v4.1)]) (st' := [.int x2]) (fun _ => rfl) ?_
        by_cases hc4 : x2 = nI 0
        · rw [if_pos hc4] at hf
          refine t_sw hc4 (fun _ _ _ => rfl) (t := 88) ?_
          refine mEnds.stp 1 (pc' := 90) (l' := [some (.ref 10), some (.int x1), some (.int x2), some (.ref 53), some (.int v4.1)]) (st' := [.int v4.1]) (fun _ => rfl) ?_
          exact mEnds.rti (Option.some.inj hf) (fun _ => rfl)
        · rw [if_neg hc4] at hf
          by_cases hc5 : x2 = nI 1
          · rw [if_pos hc5] at hf
            refine t_sw hc5 (fun _ _ _ => rfl) (t := 91) ?_
            refine mEnds.stp 1 (pc' := 92) (l' := [some (.ref 10), some (.int x1), some (.int x2), some (.ref 53), some (.int v4.1)]) (st' := [.ref 53]) (fun _ => rfl) ?_
            refine t_gi (rfl : mfetch 71 92 = some (92, .getfield 92, 3, 1, 4, 0)) rfl rfl ?_
            refine mEnds.stp 1 (pc' := 96) (l' := [some (.ref 10), some (.int x1), some (.int x2), some (.ref 53), some (.int v4.1)]) (st' := [.ref 10, .int (v4.2 53 4)]) (fun _ => rfl) ?_
            refine t_gr (rfl : mfetch 71 96 = some (96, .getfield 10, 3, 4, 0, 0)) rfl rfl ?_
            refine t_gi (rfl : mfetch 71 99 = some (99, .getfield 92, 3, 1, 4, 0)) rfl rfl ?_
            refine mEnds.stp 1 (pc' := 103) (l' := [some (.ref 10), some (.int x1), some (.int x2), some (.ref 53), some (.int v4.1)]) (st' := [.int ((v4.2 53 4) - (v4.2 11 4))]) (fun _ => rfl) ?_
            exact mEnds.rti (Option.some.inj hf) (fun _ => rfl)
          · rw [if_neg hc5] at hf
            by_cases hc6 : x2 = nI 2
            · rw [if_pos hc6] at hf
              refine t_sw hc6 (fun _ _ _ => rfl) (t := 104) ?_
              refine mEnds.stp 1 (pc' := 105) (l' := [some (.ref 10), some (.int x1), some (.int x2), some (.ref 53), some (.int v4.1)]) (st' := [.ref 53]) (fun _ => rfl) ?_
              obtain ⟨v5, hv5, hf⟩ := ob hf
              refine t_cv (as := []) (st := []) (rfl : mfetch 71 105 = some (105, .invokevirtual 95, 3, 15, 0, 0)) rfl rfl rfl rfl rfl ((ok_H_warmthOfAll isH_53 hv5).deep 3) ?_
              exact mEnds.rti (Option.some.inj hf) (fun _ => rfl)
            · rw [if_neg hc6] at hf
              refine t_swD (t := 109) (rfl : mfetch 71 60 = some (60, .tableswitch 49 0 2 #[28, 31, 44], 28, 0, 0, 0)) rfl (sw_out (fun k hk => match k, hk with | 0, _ => hc4 | 1, _ => hc5 | 2, _ => hc6 | k + 3, hk => absurd hk (by omega))) ?_
              refine mEnds.stp 1 (pc' := 110) (l' := [some (.ref 10), some (.int x1), some (.int x2), some (.ref 53), some (.int v4.1)]) (st' := [.ref 53]) (fun _ => rfl) ?_
              refine t_gi (rfl : mfetch 71 110 = some (110, .getfield 99, 3, 1, 1, 0)) rfl rfl ?_
              exact mEnds.rti (Option.some.inj hf) (fun _ => rfl)
