def M_swap_251 (k38 : Int32 → Int32 → Int32 → sg → Option (Int32 × sg)) (k53 : Int32 → Int32 → Int32 → sg → Option (Int32 × sg)) (x1 : Int32) (x2 : Int32) (x3 : Int32) (x5 : Int32) (x6 : Int32) (x7 : Int32) (y0 : Int32) (s : sg) : Option (Int32 × sg) :=
  if x7 < x3 then
    k53 x7 y0 (x6 + (nI 1)) s
  else
    k53 x3 y0 (x6 + (nI 1)) s
set_option maxRecDepth 100000 in
theorem ok_M_swap_251 {k38 : Int32 → Int32 → Int32 → sg → Option (Int32 × sg)} {k53 : Int32 → Int32 → Int32 → sg → Option (Int32 × sg)} {x1 : Int32} {x2 : Int32} {x3 : Int32} {x5 : Int32} {x6 : Int32} {x7 : Int32} {y0 : Int32} {s : sg} {rv : (Int32 × sg)} (hk38 : ∀ (x3 : Int32) (x4 : Int32) (x5 : Int32) (s : sg) (rv : (Int32 × sg)), k38 x3 x4 x5 s = some rv → mEnds [] 5 161 (38, [some (.ref 10), some (.int x1), some (.int x2), some (.int x3), some (.int x4), some (.int x5), none, none], [], hp shM s, 0, 0) (some (.int rv.1), hp shM rv.2, 0, 0)) (hk53 : ∀ (x3 : Int32) (x4 : Int32) (x6 : Int32) (s : sg) (rv : (Int32 × sg)), k53 x3 x4 x6 s = some rv → mEnds [] 5 161 (53, [some (.ref 10), some (.int x1), some (.int x2), some (.int x3), some (.int x4), some (.int x5), some (.int x6), none], [], hp shM s, 0, 0) (some (.int rv.1), hp shM rv.2, 0, 0)) (hf : M_swap_251 k38 k53 x1 x2 x3 x5 x6 x7 y0 s = some rv) : mEnds [] 5 161 (251, [some (.ref 10), some (.int x1), some (.int x2), some (.int x3), none, some (.int x5), some (.int x6), some (.int x7)], [.int y0], hp shM s, 0, 0) (some (.int rv.1), hp shM rv.2, 0, 0) := by
  unfold M_swap_251 at hf
  refine mEnds.stp 3 (pc' := 256) (l' := [some (.ref 10), some (.int x1), some (.int x2), some (.int x3), some (.int y0), some (.int x5), some (.int x6), some (.int x7)]) (st' := [.int x3, .int x7]) (fun _ => rfl) ?_
  by_cases hc1 : x7 < x3
  · rw [if_pos hc1] at hf
    refine t_cF (rfl : mfetch 161 256 = some (256, .if_icmp .ge 8, 3, 0, 0, 0)) (k_ge' hc1) ?_
    refine mEnds.stp 5 (pc' := 53) (l' := [some (.ref 10), some (.int x1), some (.int x2), some (.int x7), some (.int y0), some (.int x5), some (.int (x6 + (nI 1))), some (.int x7)]) (st' := []) (fun _ => rfl) ?_
    refine mEnds.cut (l := [some (.ref 10), some (.int x1), some (.int x2), some (.int x7), some (.int y0), some (.int x5), some (.int (x6 + (nI 1))), none]) ⟨rfl, ⟨rfl, ⟨rfl, ⟨rfl, ⟨rfl, ⟨rfl, ⟨rfl, trivial⟩⟩⟩⟩⟩⟩⟩ ?_
    exact hk53 x7 y0 (x6 + (nI 1)) s _ hf
  · rw [if_neg hc1] at hf
    refine t_cT (t := 264) (rfl : mfetch 161 256 = some (256, .if_icmp .ge 8, 3, 0, 0, 0)) rfl (k_ge hc1) ?_
    refine mEnds.stp 4 (pc' := 53) (l' := [some (.ref 10), some (.int x1), some (.int x2), some (.int x3), some (.int y0), some (.int x5), some (.int (x6 + (nI 1))), some (.int x7)]) (st' := []) (fun _ => rfl) ?_
    refine mEnds.cut (l := [some (.ref 10), some (.int x1), some (.int x2), some (.int x3), some (.int y0), some (.int x5), some (.int (x6 + (nI 1))), none]) ⟨rfl, ⟨rfl, ⟨rfl, ⟨rfl, ⟨rfl, ⟨rfl, ⟨rfl, trivial⟩⟩⟩⟩⟩⟩⟩ ?_
    exact hk53 x3 y0 (x6 + (nI 1)) s _ hf
def M_swap_221 (k38 : Int32 → Int32 → Int32 → sg → Option (Int32 × sg)) (k53 : Int32 → Int32 → Int32 → sg → Option (Int32 × sg)) (x1 : Int32) (x2 : Int32) (x3 : Int32) (x4 : Int32) (x5 : Int32) (x6 : Int32) (y0 : Int32) (y1 : Int32) (s : sg) : Option (Int32 × sg) :=
  (midx y1 312).bind fun j1 =>
  (some (up s 11 j1 y0)).bind fun s1 =>
  (M_hoursGo (nI 260) x1 s1).bind fun v1 =>
  if v1.1 < x3 then
    M_swap_251 k38 k53 x1 x2 x3 x5 x6 v1.1 (((nI 10) * x5) + x6) v1.2
  else
    M_swap_251 k38 k53 x1 x2 x3 x5 x6 v1.1 x4 v1.2
set_option maxRecDepth 100000 in
theorem ok_M_swap_221 {k38 : Int32 → Int32 → Int32 → sg → Option (Int32 × sg)} {k53 : Int32 → Int32 → Int32 → sg → Option (Int32 × sg)} {x1 : Int32} {x2 : Int32} {x3 : Int32} {x4 : Int32} {x5 : Int32} {x6 : Int32} {y0 : Int32} {y1 : Int32} {s : sg} {rv : (Int32 × sg)} (hk38 : ∀ (x3 : Int32) (x4 : Int32) (x5 : Int32) (s : sg) (rv : (Int32 × sg)), k38 x3 x4 x5 s = some rv → mEnds [] 5 161 (38, [some (.ref 10), some (.int x1), some (.int x2), some (.int x3), some (.int x4), some (.int x5), none, none], [], hp shM s, 0, 0) (some (.int rv.1), hp shM rv.2, 0, 0)) (hk53 : ∀ (x3 : Int32) (x4 : Int32) (x6 : Int32) (s : sg) (rv : (Int32 × sg)), k53 x3 x4 x6 s = some rv → mEnds [] 5 161 (53, [some (.ref 10), some (.int x1), some (.int x2), some (.int x3), some (.int x4), some (.int x5), some (.int x6), none], [], hp shM s, 0, 0) (some (.int rv.1), hp shM rv.2, 0, 0)) (hf : M_swap_221 k38 k53 x1 x2 x3 x4 x5 x6 y0 y1 s = some rv) : mEnds [] 5 161 (221, [some (.ref 10), some (.int x1), some (.int x2), some (.int x3), some (.int x4), some (.int x5), some (.int x6), none], [.int y0, .int y1, .ref 11], hp shM s, 0, 0) (some (.int rv.1), hp shM rv.2, 0, 0) := by
  unfold M_swap_221 at hf
  obtain ⟨j1, hj1, hf⟩ := ob hf
  obtain ⟨s1, hs1, hf⟩ := ob hf
  refine t_is (rfl : mfetch 161 221 = some (221, .iastore, 1, 0, 0, 0)) rfl rfl hj1 hs1 ?_
  refine mEnds.stp 3 (pc' := 227) (l' := [some (.ref 10), some (.int x1), some (.int x2), some (.int x3), some (.int x4), some (.int x5), some (.int x6), none]) (st' := [.int x1, .int (nI 260), .ref 10]) (fun _ => rfl) ?_
  obtain ⟨v1, hv1, hf⟩ := ob hf
  refine t_cv (as := [.int (nI 260), .int x1]) (st := []) (rfl : mfetch 161 227 = some (227, .invokevirtual 215, 3, 153, 0, 0)) rfl rfl rfl rfl rfl (ok_M_hoursGo hv1) ?_
  refine mEnds.stp 3 (pc' := 235) (l' := [some (.ref 10), some (.int x1), some (.int x2), some (.int x3), some (.int x4), some (.int x5), some (.int x6), some (.int v1.1)]) (st' := [.int x3, .int v1.1]) (fun _ => rfl) ?_
  by_cases hc1 : v1.1 < x3
  · rw [if_pos hc1] at hf
    refine t_cF (rfl : mfetch 161 235 = some (235, .if_icmp .ge 14, 3, 0, 0, 0)) (k_ge' hc1) ?_
    refine mEnds.stp 6 (pc' := 251) (l' := [some (.ref 10), some (.int x1), some (.int x2), some (.int x3), some (.int x4), some (.int x5), some (.int x6), some (.int v1.1)]) (st' := [.int (((nI 10) * x5) + x6)]) (fun _ => rfl) ?_
    refine mEnds.cut (l := [some (.ref 10), some (.int x1), some (.int x2), some (.int x3), none, some (.int x5), some (.int x6), some (.int v1.1)]) ⟨rfl, ⟨rfl, ⟨rfl, ⟨rfl, ⟨rfl, ⟨rfl, ⟨rfl, trivial⟩⟩⟩⟩⟩⟩⟩ ?_
    exact ok_M_swap_251 hk38 hk53 hf
  · rw [if_neg hc1] at hf
    refine t_cT (t := 249) (rfl : mfetch 161 235 = some (235, .if_icmp .ge 14, 3, 0, 0, 0)) rfl (k_ge hc1) ?_
    refine mEnds.stp 1 (pc' := 251) (l' := [some (.ref 10), some (.int x1), some (.int x2), some (.int x3), some (.int x4), some (.int x5), some (.int x6), some (.int v1.1)]) (st' := [.int x4]) (fun _ => rfl) ?_
    refine mEnds.cut (l := [some (.ref 10), some (.int x1), some (.int x2), some (.int x3), none, some (.int x5), some (.int x6), some (.int v1.1)]) ⟨rfl, ⟨rfl, ⟨rfl, ⟨rfl, ⟨rfl, ⟨rfl, ⟨rfl, trivial⟩⟩⟩⟩⟩⟩⟩ ?_
    exact ok_M_swap_251 hk38 hk53 hf
def M_swap_187 (k38 : Int32 → Int32 → Int32 → sg → Option (Int32 × sg)) (k53 : Int32 → Int32 → Int32 → sg → Option (Int32 × sg)) (x1 : Int32) (x2 : Int32) (x3 : Int32) (x4 : Int32) (x5 : Int32) (x6 : Int32) (y0 : Int32) (y1 : Int32) (s : sg) : Option (Int32 × sg) :=
  (midx y1 312).bind fun j1 =>
  (some (up s 11 j1 y0)).bind fun s1 =>
  (M_hasTongue x5 s1).bind fun v1 =>
  if v1 = 0 then
    M_swap_221 k38 k53 x1 x2 x3 x4 x5 x6 (nI 0) ((nI 290) + x6) s1
  else
    (midx ((nI 30) + x6) 312).bind fun j2 =>
    M_swap_221 k38 k53 x1 x2 x3 x4 x5 x6 (s1 11 j2) ((nI 290) + x6) s1
set_option maxRecDepth 100000 in
theorem ok_M_swap_187 {k38 : Int32 → Int32 → Int32 → sg → Option (Int32 × sg)} {k53 : Int32 → Int32 → Int32 → sg → Option (Int32 × sg)} {x1 : Int32} {x2 : Int32} {x3 : Int32} {x4 : Int32} {x5 : Int32} {x6 : Int32} {y0 : Int32} {y1 : Int32} {s : sg} {rv : (Int32 × sg)} (hk38 : ∀ (x3 : Int32) (x4 : Int32) (x5 : Int32) (s : sg) (rv : (Int32 × sg)), k38 x3 x4 x5 s = some rv → mEnds [] 5 161 (38, [some (.ref 10), some (.int x1), some (.int x2), some (.int x3), some (.int x4), some (.int x5), none, none], [], hp shM s, 0, 0) (some (.int rv.1), hp shM rv.2, 0, 0)) (hk53 : ∀ (x3 : Int32) (x4 : Int32) (x6 : Int32) (s : sg) (rv : (Int32 × sg)), k53 x3 x4 x6 s = some rv → mEnds [] 5 161 (53, [some (.ref 10), some (.int x1), some (.int x2), some (.int x3), some (.int x4), some (.int x5), some (.int x6), none], [], hp shM s, 0, 0) (some (.int rv.1), hp shM rv.2, 0, 0)) (hf : M_swap_187 k38 k53 x1 x2 x3 x4 x5 x6 y0 y1 s = some rv) : mEnds [] 5 161 (187, [some (.ref 10), some (.int x1), some (.int x2), some (.int x3), some (.int x4), some (.int x5), some (.int x6), none], [.int y0, .int y1, .ref 11], hp shM s, 0, 0) (some (.int rv.1), hp shM rv.2, 0, 0) := by
  unfold M_swap_187 at hf
  obtain ⟨j1, hj1, hf⟩ := ob hf
  obtain ⟨s1, hs1, hf⟩ := ob hf
  refine t_is (rfl : mfetch 161 187 = some (187, .iastore, 1, 0, 0, 0)) rfl rfl hj1 hs1 ?_
  refine mEnds.stp 1 (pc' := 189) (l' := [some (.ref 10), some (.int x1), some (.int x2), some (.int x3), some (.int x4), some (.int x5), some (.int x6), none]) (st' := [.ref 10]) (fun _ => rfl) ?_
  refine t_gr (rfl : mfetch 161 189 = some (189, .getfield 7, 3, 5, 0, 0)) rfl rfl ?_
  refine mEnds.stp 5 (pc' := 201) (l' := [some (.ref 10), some (.int x1), some (.int x2), some (.int x3), some (.int x4), some (.int x5), some (.int x6), none]) (st' := [.int x5, .ref 10, .int ((nI 290) + x6), .ref 11]) (fun _ => rfl) ?_
  obtain ⟨v1, hv1, hf⟩ := ob hf
  refine t_cv (as := [.int x5]) (st := [.int ((nI 290) + x6), .ref 11]) (rfl : mfetch 161 201 = some (201, .invokevirtual 173, 3, 128, 0, 0)) rfl rfl rfl rfl rfl ((ok_M_hasTongue hv1).deep 4) ?_
  by_cases hc1 : v1 = 0
  · rw [if_pos hc1] at hf
    refine t_jT (t := 220) (rfl : mfetch 161 204 = some (204, .ifCond .eq 16, 3, 0, 0, 0)) rfl (k_eq hc1) ?_
    refine mEnds.stp 1 (pc' := 221) (l' := [some (.ref 10), some (.int x1), some (.int x2), some (.int x3), some (.int x4), some (.int x5), some (.int x6), none]) (st' := [.int (nI 0), .int ((nI 290) + x6), .ref 11]) (fun _ => rfl) ?_
    refine mEnds.cut (l := [some (.ref 10), some (.int x1), some (.int x2), some (.int x3), some (.int x4), some (.int x5), some (.int x6), none]) ⟨rfl, ⟨rfl, ⟨rfl, ⟨rfl, ⟨rfl, ⟨rfl, ⟨rfl, trivial⟩⟩⟩⟩⟩⟩⟩ ?_
    exact ok_M_swap_221 hk38 hk53 hf
  · rw [if_neg hc1] at hf
    refine t_jF (rfl : mfetch 161 204 = some (204, .ifCond .eq 16, 3, 0, 0, 0)) (k_eq' hc1) ?_
    refine mEnds.stp 1 (pc' := 208) (l' := [some (.ref 10), some (.int x1), some (.int x2), some (.int x3), some (.int x4), some (.int x5), some (.int x6), none]) (st' := [.ref 10, .int ((nI 290) + x6), .ref 11]) (fun _ => rfl) ?_
    refine t_gr (rfl : mfetch 161 208 = some (208, .getfield 7, 3, 5, 0, 0)) rfl rfl ?_
    refine mEnds.stp 3 (pc' := 216) (l' := [some (.ref 10), some (.int x1), some (.int x2), some (.int x3), some (.int x4), some (.int x5), some (.int x6), none]) (st' := [.int ((nI 30) + x6), .ref 11, .int ((nI 290) + x6), .ref 11]) (fun _ => rfl) ?_
    obtain ⟨j2, hj2, hf⟩ := ob hf
    refine t_ia (rfl : mfetch 161 216 = some (216, .iaload, 1, 0, 0, 0)) rfl rfl hj2 ?_
    refine mEnds.stp 1 (pc' := 221) (l' := [some (.ref 10), some (.int x1), some (.int x2), some (.int x3), some (.int x4), some (.int x5), some (.int x6), none]) (st' := [.int (s1 11 j2), .int ((nI 290) + x6), .ref 11]) (fun _ => rfl) ?_
    refine mEnds.cut (l := [some (.ref 10), some (.int x1), some (.int x2), some (.int x3), some (.int x4), some (.int x5), some (.int x6), none]) ⟨rfl, ⟨rfl, ⟨rfl, ⟨rfl, ⟨rfl, ⟨rfl, ⟨rfl, trivial⟩⟩⟩⟩⟩⟩⟩ ?_
    exact ok_M_swap_221 hk38 hk53 hf
def M_swap_53 (k38 : Int32 → Int32 → Int32 → sg → Option (Int32 × sg)) (x1 : Int32) (x2 : Int32) (x5 : Int32) : Nat → Int32 → Int32 → Int32 → sg → Option (Int32 × sg)
  | 0, _, _, _, _ => none
  | fu + 1, x3, x4, x6, s =>
  if x6 < s 10 1 then
    (M_copies (nI 0) (nI 260) s).bind fun s1 =>
    (midx ((nI 18) + x6) 312).bind fun j1 =>
    (midx ((nI 278) + x5) 312).bind fun j2 =>
    (some (up s1 11 j2 (s1 11 j1))).bind fun s2 =>
    (midx ((nI 18) + x5) 312).bind fun j3 =>
    (midx ((nI 278) + x6) 312).bind fun j4 =>
    (some (up s2 11 j4 (s2 11 j3))).bind fun s3 =>
    (midx ((nI 24) + x6) 312).bind fun j5 =>
    (midx ((nI 284) + x5) 312).bind fun j6 =>
    (some (up s3 11 j6 (s3 11 j5))).bind fun s4 =>
    (midx ((nI 24) + x5) 312).bind fun j7 =>
    (midx ((nI 284) + x6) 312).bind fun j8 =>
    (some (up s4 11 j8 (s4 11 j7))).bind fun s5 =>
    (M_hasTongue x6 s5).bind fun v2 =>
    if v2 = 0 then
      M_swap_187 k38 (M_swap_53 k38 x1 x2 x5 fu) x1 x2 x3 x4 x5 x6 (nI 0) ((nI 290) + x5) s5
    else
      (midx ((nI 30) + x5) 312).bind fun j9 =>
      M_swap_187 k38 (M_swap_53 k38 x1 x2 x5 fu) x1 x2 x3 x4 x5 x6 (s5 11 j9) ((nI 290) + x5) s5
  else
    k38 x3 x4 (x5 + (nI 1)) s
set_option maxRecDepth 100000 in
theorem ok_M_swap_53 {k38 : Int32 → Int32 → Int32 → sg → Option (Int32 × sg)} {x1 : Int32} {x2 : Int32} {x5 : Int32} (hk38 : ∀ (x3 : Int32) (x4 : Int32) (x5 : Int32) (s : sg) (rv : (Int32 × sg)), k38 x3 x4 x5 s = some rv → mEnds [] 5 161 (38, [some (.ref 10), some (.int x1), some (.int x2), some (.int x3), some (.int x4), some (.int x5), none, none], [], hp shM s, 0, 0) (some (.int rv.1), hp shM rv.2, 0, 0)) : ∀ (fu : Nat) (x3 : Int32) (x4 : Int32) (x6 : Int32) (s : sg) (rv : (Int32 × sg)), M_swap_53 k38 x1 x2 x5 fu x3 x4 x6 s = some rv → mEnds [] 5 161 (53, [some (.ref 10), some (.int x1), some (.int x2), some (.int x3), some (.int x4), some (.int x5), some (.int x6), none], [], hp shM s, 0, 0) (some (.int rv.1), hp shM rv.2, 0, 0)
  | 0, _, _, _, _, _, hf => by cases hf
  | fu + 1, x3, x4, x6, s, rv, hf => by
    rw [M_swap_53] at hf
    refine mEnds.stp 2 (pc' := 56) (l' := [some (.ref 10), some (.int x1), some (.int x2), some (.int x3), some (.int x4), some (.int x5), some (.int x6), none]) (st' := [.ref 10, .int x6]) (fun _ => rfl) ?_
    refine t_gi (rfl : mfetch 161 56 = some (56, .getfield 139, 3, 5, 1, 0)) rfl rfl ?_
    by_cases hc1 : x6 < s 10 1
    · rw [if_pos hc1] at hf
      refine t_cF (rfl : mfetch 161 59 = some (59, .if_icmp .ge 213, 3, 0, 0, 0)) (k_ge' hc1) ?_
      refine mEnds.stp 3 (pc' := 67) (l' := [some (.ref 10), some (.int x1), some (.int x2), some (.int x3), some (.int x4), some (.int x5), some (.int x6), none]) (st' := [.int (nI 260), .int (nI 0), .ref 10]) (fun _ => rfl) ?_
      obtain ⟨s1, hs1, hf⟩ := ob hf
      refine t_cv (as := [.int (nI 0), .int (nI 260)]) (st := []) (rfl : mfetch 161 67 = some (67, .invokevirtual 201, 3, 152, 0, 0)) rfl rfl rfl rfl rfl ((ok_M_copies hs1).deep 4) ?_
      refine mEnds.stp 1 (pc' := 71) (l' := [some (.ref 10), some (.int x1), some (.int x2), some (.int x3), some (.int x4), some (.int x5), some (.int x6), none]) (st' := [.ref 10]) (fun _ => rfl) ?_
      refine t_gr (rfl : mfetch 161 71 = some (71, .getfield 7, 3, 5, 0, 0)) rfl rfl ?_
      refine mEnds.stp 4 (pc' := 81) (l' := [some (.ref 10), some (.int x1), some (.int x2), some (.int x3), some (.int x4), some (.int x5), some (.int x6), none]) (st' := [.ref 10, .int ((nI 278) + x5), .ref 11]) (fun _ => rfl) ?_
      refine t_gr (rfl : mfetch 161 81 = some (81, .getfield 7, 3, 5, 0, 0)) rfl rfl ?_
      refine mEnds.stp 3 (pc' := 89) (l' := [some (.ref 10), some (.int x1), some (.int x2), some (.int x3), some (.int x4), some (.int x5), some (.int x6), none]) (st' := [.int ((nI 18) + x6), .ref 11, .int ((nI 278) + x5), .ref 11]) (fun _ => rfl) ?_
      obtain ⟨j1, hj1, hf⟩ := ob hf
      refine t_ia (rfl : mfetch 161 89 = some (89, .iaload, 1, 0, 0, 0)) rfl rfl hj1 ?_
      obtain ⟨j2, hj2, hf⟩ := ob hf
      obtain ⟨s2, hs2, hf⟩ := ob hf
      refine t_is (rfl : mfetch 161 90 = some (90, .iastore, 1, 0, 0, 0)) rfl rfl hj2 hs2 ?_
      refine mEnds.stp 1 (pc' := 92) (l' := [some (.ref 10), some (.int x1), some (.int x2), some (.int x3), some (.int x4), some (.int x5), some (.int x6), none]) (st' := [.ref 10]) (fun _ => rfl) ?_
      refine t_gr (rfl : mfetch 161 92 = some (92, .getfield 7, 3, 5, 0, 0)) rfl rfl ?_
      refine mEnds.stp 4 (pc' := 102) (l' := [some (.ref 10), some (.int x1), some (.int x2), some (.int x3), some (.int x4), some (.int x5), some (.int x6), none]) (st' := [.ref 10, .int ((nI 278) + x6), .ref 11]) (fun _ => rfl) ?_
      refine t_gr (rfl : mfetch 161 102 = some (102, .getfield 7, 3, 5, 0, 0)) rfl rfl ?_
      refine mEnds.stp 3 (pc' := 110) (l' := [some (.ref 10), some (.int x1), some (.int x2), some (.int x3), some (.int x4), some (.int x5), some (.int x6), none]) (st' := [.int ((nI 18) + x5), .ref 11, .int ((nI 278) + x6), .ref 11]) (fun _ => rfl) ?_
      obtain ⟨j3, hj3, hf⟩ := ob hf
      refine t_ia (rfl : mfetch 161 110 = some (110, .iaload, 1, 0, 0, 0)) rfl rfl hj3 ?_
      obtain ⟨j4, hj4, hf⟩ := ob hf
      obtain ⟨s3, hs3, hf⟩ := ob hf
      refine t_is (rfl : mfetch 161 111 = some (111, .iastore, 1, 0, 0, 0)) rfl rfl hj4 hs3 ?_
      refine mEnds.stp 1 (pc' := 113) (l' := [some (.ref 10), some (.int x1), some (.int x2), some (.int x3), some (.int x4), some (.int x5), some (.int x6), none]) (st' := [.ref 10]) (fun _ => rfl) ?_
      refine t_gr (rfl : mfetch 161 113 = some (113, .getfield 7, 3, 5, 0, 0)) rfl rfl ?_
      refine mEnds.stp 4 (pc' := 123) (l' := [some (.ref 10), some (.int x1), some (.int x2), some (.int x3), some (.int x4), some (.int x5), some (.int x6), none]) (st' := [.ref 10, .int ((nI 284) + x5), .ref 11]) (fun _ => rfl) ?_
      refine t_gr (rfl : mfetch 161 123 = some (123, .getfield 7, 3, 5, 0, 0)) rfl rfl ?_
      refine mEnds.stp 3 (pc' := 131) (l' := [some (.ref 10), some (.int x1), some (.int x2), some (.int x3), some (.int x4), some (.int x5), some (.int x6), none]) (st' := [.int ((nI 24) + x6), .ref 11, .int ((nI 284) + x5), .ref 11]) (fun _ => rfl) ?_
      obtain ⟨j5, hj5, hf⟩ := ob hf
      refine t_ia (rfl : mfetch 161 131 = some (131, .iaload, 1, 0, 0, 0)) rfl rfl hj5 ?_
      obtain ⟨j6, hj6, hf⟩ := ob hf
      obtain ⟨s4, hs4, hf⟩ := ob hf
      refine t_is (rfl : mfetch 161 132 = some (132, .iastore, 1, 0, 0, 0)) rfl rfl hj6 hs4 ?_
      refine mEnds.stp 1 (pc' := 134) (l' := [some (.ref 10), some (.int x1), some (.int x2), some (.int x3), some (.int x4), some (.int x5), some (.int x6), none]) (st' := [.ref 10]) (fun _ => rfl) ?_
      refine t_gr (rfl : mfetch 161 134 = some (134, .getfield 7, 3, 5, 0, 0)) rfl rfl ?_
      refine mEnds.stp 4 (pc' := 144) (l' := [some (.ref 10), some (.int x1), some (.int x2), some (.int x3), some (.int x4), some (.int x5), some (.int x6), none]) (st' := [.ref 10, .int ((nI 284) + x6), .ref 11]) (fun _ => rfl) ?_
      refine t_gr (rfl : mfetch 161 144 = some (144, .getfield 7, 3, 5, 0, 0)) rfl rfl ?_
      refine mEnds.stp 3 (pc' := 152) (l' := [some (.ref 10), some (.int x1), some (.int x2), some (.int x3), some (.int x4), some (.int x5), some (.int x6), none]) (st' := [.int ((nI 24) + x5), .ref 11, .int ((nI 284) + x6), .ref 11]) (fun _ => rfl) ?_
      obtain ⟨j7, hj7, hf⟩ := ob hf
      refine t_ia (rfl : mfetch 161 152 = some (152, .iaload, 1, 0, 0, 0)) rfl rfl hj7 ?_
      obtain ⟨j8, hj8, hf⟩ := ob hf
      obtain ⟨s5, hs5, hf⟩ := ob hf
      refine t_is (rfl : mfetch 161 153 = some (153, .iastore, 1, 0, 0, 0)) rfl rfl hj8 hs5 ?_
      refine mEnds.stp 1 (pc' := 155) (l' := [some (.ref 10), some (.int x1), some (.int x2), some (.int x3), some (.int x4), some (.int x5), some (.int x6), none]) (st' := [.ref 10]) (fun _ => rfl) ?_
      refine t_gr (rfl : mfetch 161 155 = some (155, .getfield 7, 3, 5, 0, 0)) rfl rfl ?_
      refine mEnds.stp 5 (pc' := 167) (l' := [some (.ref 10), some (.int x1), some (.int x2), some (.int x3), some (.int x4), some (.int x5), some (.int x6), none]) (st' := [.int x6, .ref 10, .int ((nI 290) + x5), .ref 11]) (fun _ => rfl) ?_
      obtain ⟨v2, hv2, hf⟩ := ob hf
      refine t_cv (as := [.int x6]) (st := [.int ((nI 290) + x5), .ref 11]) (rfl : mfetch 161 167 = some (167, .invokevirtual 173, 3, 128, 0, 0)) rfl rfl rfl rfl rfl ((ok_M_hasTongue hv2).deep 4) ?_
      by_cases hc2 : v2 = 0
      · rw [if_pos hc2] at hf
        refine t_jT (t := 186) (rfl : mfetch 161 170 = some (170, .ifCond .eq 16, 3, 0, 0, 0)) rfl (k_eq hc2) ?_
        refine mEnds.stp 1 (pc' := 187) (l' := [some (.ref 10), some (.int x1), some (.int x2), some (.int x3), some (.int x4), some (.int x5), some (.int x6), none]) (st' := [.int (nI 0), .int ((nI 290) + x5), .ref 11]) (fun _ => rfl) ?_
        refine mEnds.cut (l := [some (.ref 10), some (.int x1), some (.int x2), some (.int x3), some (.int x4), some (.int x5), some (.int x6), none]) ⟨rfl, ⟨rfl, ⟨rfl, ⟨rfl, ⟨rfl, ⟨rfl, ⟨rfl, trivial⟩⟩⟩⟩⟩⟩⟩ ?_
        exact ok_M_swap_187 hk38 (ok_M_swap_53 hk38 fu) hf
      · rw [if_neg hc2] at hf
        refine t_jF (rfl : mfetch 161 170 = some (170, .ifCond .eq 16, 3, 0, 0, 0)) (k_eq' hc2) ?_
        refine mEnds.stp 1 (pc' := 174) (l' := [some (.ref 10), some (.int x1), some (.int x2), some (.int x3), some (.int x4), some (.int x5), some (.int x6), none]) (st' := [.ref 10, .int ((nI 290) + x5), .ref 11]) (fun _ => rfl) ?_
        refine t_gr (rfl : mfetch 161 174 = some (174, .getfield 7, 3, 5, 0, 0)) rfl rfl ?_
        refine mEnds.stp 3 (pc' := 182) (l' := [some (.ref 10), some (.int x1), some (.int x2), some (.int x3), some (.int x4), some (.int x5), some (.int x6), none]) (st' := [.int ((nI 30) + x5), .ref 11, .int ((nI 290) + x5), .ref 11]) (fun _ => rfl) ?_
        obtain ⟨j9, hj9, hf⟩ := ob hf
        refine t_ia (rfl : mfetch 161 182 = some (182, .iaload, 1, 0, 0, 0)) rfl rfl hj9 ?_
        refine mEnds.stp 1 (pc' := 187) (l' := [some (.ref 10), some (.int x1), some (.int x2), some (.int x3), some (.int x4), some (.int x5), some (.int x6), none]) (st' := [.int (s5 11 j9), .int ((nI 290) + x5), .ref 11]) (fun _ => rfl) ?_
        refine mEnds.cut (l := [some (.ref 10), some (.int x1), some (.int x2), some (.int x3), some (.int x4), some (.int x5), some (.int x6), none]) ⟨rfl, ⟨rfl, ⟨rfl, ⟨rfl, ⟨rfl, ⟨rfl, ⟨rfl, trivial⟩⟩⟩⟩⟩⟩⟩ ?_
        exact ok_M_swap_187 hk38 (ok_M_swap_53 hk38 fu) hf
    · rw [if_neg hc1] at hf
      refine t_cT (t := 272) (rfl : mfetch 161 59 = some (59, .if_icmp .ge 213, 3, 0, 0, 0)) rfl (k_ge hc1) ?_
      refine mEnds.stp 2 (pc' := 38) (l' := [some (.ref 10), some (.int x1), some (.int x2), some (.int x3), some (.int x4), some (.int (x5 + (nI 1))), some (.int x6), none]) (st' := []) (fun _ => rfl) ?_
      refine mEnds.cut (l := [some (.ref 10), some (.int x1), some (.int x2), some (.int x3), some (.int x4), some (.int (x5 + (nI 1))), none, none]) ⟨rfl, ⟨rfl, ⟨rfl, ⟨rfl, ⟨rfl, ⟨rfl, trivial⟩⟩⟩⟩⟩⟩ ?_
      exact hk38 x3 x4 (x5 + (nI 1)) s _ hf
def M_swap_38 (x1 : Int32) (x2 : Int32) : Nat → Int32 → Int32 → Int32 → sg → Option (Int32 × sg)
  | 0, _, _, _, _ => none
  | fu + 1, x3, x4, x5, s =>
  if x5 < s 10 1 then
    M_swap_53 (M_swap_38 x1 x2 fu) x1 x2 x5 FU x3 x4 (x5 + (nI 1)) s
  else
    if x4 = (-4) then
      some (x4, s)
    else
      if x2 = 0 then
        some (x4, s)
      else
        some (x3, s)
set_option maxRecDepth 100000 in
theorem ok_M_swap_38 {x1 : Int32} {x2 : Int32} : ∀ (fu : Nat) (x3 : Int32) (x4 : Int32) (x5 : Int32) (s : sg) (rv : (Int32 × sg)), M_swap_38 x1 x2 fu x3 x4 x5 s = some rv → mEnds [] 5 161 (38, [some (.ref 10), some (.int x1), some (.int x2), some (.int x3), some (.int x4), some (.int x5), none, none], [], hp shM s, 0, 0) (some (.int rv.1), hp shM rv.2, 0, 0)
  | 0, _, _, _, _, _, hf => by cases hf
  | fu + 1, x3, x4, x5, s, rv, hf => by
    rw [M_swap_38] at hf
    refine mEnds.stp 2 (pc' := 41) (l' := [some (.ref 10), some (.int x1), some (.int x2), some (.int x3), some (.int x4), some (.int x5), none, none]) (st' := [.ref 10, .int x5]) (fun _ => rfl) ?_
    refine t_gi (rfl : mfetch 161 41 = some (41, .getfield 139, 3, 5, 1, 0)) rfl rfl ?_
    by_cases hc1 : x5 < s 10 1
    · rw [if_pos hc1] at hf
      refine t_cF (rfl : mfetch 161 44 = some (44, .if_icmp .ge 234, 3, 0, 0, 0)) (k_ge' hc1) ?_
      refine mEnds.stp 4 (pc' := 53) (l' := [some (.ref 10), some (.int x1), some (.int x2), some (.int x3), some (.int x4), some (.int x5), some (.int (x5 + (nI 1))), none]) (st' := []) (fun _ => rfl) ?_
      refine mEnds.cut (l := [some (.ref 10), some (.int x1), some (.int x2), some (.int x3), some (.int x4), some (.int x5), some (.int (x5 + (nI 1))), none]) ⟨rfl, ⟨rfl, ⟨rfl, ⟨rfl, ⟨rfl, ⟨rfl, ⟨rfl, trivial⟩⟩⟩⟩⟩⟩⟩ ?_
      exact ok_M_swap_53 (ok_M_swap_38 fu) FU x3 x4 (x5 + (nI 1)) s _ hf
    · rw [if_neg hc1] at hf
      refine t_cT (t := 278) (rfl : mfetch 161 44 = some (44, .if_icmp .ge 234, 3, 0, 0, 0)) rfl (k_ge hc1) ?_
      refine mEnds.stp 2 (pc' := 282) (l' := [some (.ref 10), some (.int x1), some (.int x2), some (.int x3), some (.int x4), some (.int x5), none, none]) (st' := [.int (-4), .int x4]) (fun _ => rfl) ?_
      by_cases hc2 : x4 = (-4)
      · rw [if_pos hc2] at hf
        refine t_cT (t := 289) (rfl : mfetch 161 282 = some (282, .if_icmp .eq 7, 3, 0, 0, 0)) rfl (k_eq hc2) ?_
        refine mEnds.stp 2 (pc' := 295) (l' := [some (.ref 10), some (.int x1), some (.int x2), some (.int x3), some (.int x4), some (.int x5), none, none]) (st' := [.int x4]) (fun _ => rfl) ?_
        exact mEnds.rti (Option.some.inj hf) (fun _ => rfl)
      · rw [if_neg hc2] at hf
        refine t_cF (rfl : mfetch 161 282 = some (282, .if_icmp .eq 7, 3, 0, 0, 0)) (k_eq' hc2) ?_
        refine mEnds.stp 1 (pc' := 286) (l' := [some (.ref 10), some (.int x1), some (.int x2), some (.int x3), some (.int x4), some (.int x5), none, none]) (st' := [.int x2]) (fun _ => rfl) ?_
        by_cases hc3 : x2 = 0
        · rw [if_pos hc3] at hf
          refine t_jF (rfl : mfetch 161 286 = some (286, .ifCond .ne 8, 3, 0, 0, 0)) (k_ne' hc3) ?_
          refine mEnds.stp 2 (pc' := 295) (l' := [some (.ref 10), some (.int x1), some (.int x2), some (.int x3), some (.int x4), some (.int x5), none, none]) (st' := [.int x4]) (fun _ => rfl) ?_
          exact mEnds.rti (Option.some.inj hf) (fun _ => rfl)
        · rw [if_neg hc3] at hf
          refine t_jT (t := 294) (rfl : mfetch 161 286 = some (286, .ifCond .ne 8, 3, 0, 0, 0)) rfl (k_ne hc3) ?_
          refine mEnds.stp 1 (pc' := 295) (l' := [some (.ref 10), some (.int x1), some (.int x2), some (.int x3), some (.int x4), some (.int x5), none, none]) (st' := [.int x3]) (fun _ => rfl) ?_
          exact mEnds.rti (Option.some.inj hf) (fun _ => rfl)
def M_swap (x1 : Int32) (x2 : Int32) (s : sg) : Option (Int32 × sg) :=
  (M_in x1.toInt64 (0 : Int64) (60 : Int64) s).bind fun v1 =>
  if v1 = 0 then
    some ((-1), s)
  else
    (M_in x2.toInt64 (0 : Int64) (1 : Int64) s).bind fun v2 =>
    if v2 = 0 then
      some ((-1), s)
    else
      (M_hoursGo (nI 0) x1 s).bind fun v3 =>
      M_swap_38 x1 x2 FU v3.1 (-4) (nI 0) v3.2
set_option maxRecDepth 100000 in
theorem ok_M_swap {x1 : Int32} {x2 : Int32} {s : sg} {rv : (Int32 × sg)} (hf : M_swap x1 x2 s = some rv) : mEnds [] 5 161 (0, [some (.ref 10), some (.int x1), some (.int x2), none, none, none, none, none], [], hp shM s, 0, 0) (some (.int rv.1), hp shM rv.2, 0, 0) := by
  unfold M_swap at hf
  refine mEnds.stp 4 (pc' := 6) (l' := [some (.ref 10), some (.int x1), some (.int x2), none, none, none, none, none]) (st' := [.long (60 : Int64), .long (0 : Int64), .long x1.toInt64]) (fun _ => rfl) ?_
  obtain ⟨v1, hv1, hf⟩ := ob hf
  refine t_cs (as := [.long x1.toInt64, .long (0 : Int64), .long (60 : Int64)]) (st := []) (Or.inl rfl) (rfl : mfetch 161 6 = some (6, .invokestatic 49, 3, 111, 0, 0)) rfl rfl rfl ((ok_M_in hv1).deep 4) ?_
  by_cases hc1 : v1 = 0
  · rw [if_pos hc1] at hf
    refine t_jT (t := 22) (rfl : mfetch 161 9 = some (9, .ifCond .eq 13, 3, 0, 0, 0)) rfl (k_eq hc1) ?_
    refine mEnds.stp 1 (pc' := 23) (l' := [some (.ref 10), some (.int x1), some (.int x2), none, none, none, none, none]) (st' := [.int (-1)]) (fun _ => rfl) ?_
    exact mEnds.rti (Option.some.inj hf) (fun _ => rfl)
  · rw [if_neg hc1] at hf
    refine t_jF (rfl : mfetch 161 9 = some (9, .ifCond .eq 13, 3, 0, 0, 0)) (k_eq' hc1) ?_
    refine mEnds.stp 4 (pc' := 16) (l' := [some (.ref 10), some (.int x1), some (.int x2), none, none, none, none, none]) (st' := [.long (1 : Int64), .long (0 : Int64), .long x2.toInt64]) (fun _ => rfl) ?_
    obtain ⟨v2, hv2, hf⟩ := ob hf
    refine t_cs (as := [.long x2.toInt64, .long (0 : Int64), .long (1 : Int64)]) (st := []) (Or.inl rfl) (rfl : mfetch 161 16 = some (16, .invokestatic 49, 3, 111, 0, 0)) rfl rfl rfl ((ok_M_in hv2).deep 4) ?_
    by_cases hc2 : v2 = 0
    · rw [if_pos hc2] at hf
      refine t_jF (rfl : mfetch 161 19 = some (19, .ifCond .ne 5, 3, 0, 0, 0)) (k_ne' hc2) ?_
      refine mEnds.stp 1 (pc' := 23) (l' := [some (.ref 10), some (.int x1), some (.int x2), none, none, none, none, none]) (st' := [.int (-1)]) (fun _ => rfl) ?_
      exact mEnds.rti (Option.some.inj hf) (fun _ => rfl)
    · rw [if_neg hc2] at hf
      refine t_jT (t := 24) (rfl : mfetch 161 19 = some (19, .ifCond .ne 5, 3, 0, 0, 0)) rfl (k_ne hc2) ?_
      refine mEnds.stp 3 (pc' := 27) (l' := [some (.ref 10), some (.int x1), some (.int x2), none, none, none, none, none]) (st' := [.int x1, .int (nI 0), .ref 10]) (fun _ => rfl) ?_
      obtain ⟨v3, hv3, hf⟩ := ob hf
      refine t_cv (as := [.int (nI 0), .int x1]) (st := []) (rfl : mfetch 161 27 = some (27, .invokevirtual 215, 3, 153, 0, 0)) rfl rfl rfl rfl rfl (ok_M_hoursGo hv3) ?_
      refine mEnds.stp 5 (pc' := 38) (l' := [some (.ref 10), some (.int x1), some (.int x2), some (.int v3.1), some (.int (-4)), some (.int (nI 0)), none, none]) (st' := []) (fun _ => rfl) ?_
      refine mEnds.cut (l := [some (.ref 10), some (.int x1), some (.int x2), some (.int v3.1), some (.int (-4)), some (.int (nI 0)), none, none]) ⟨rfl, ⟨rfl, ⟨rfl, ⟨rfl, ⟨rfl, ⟨rfl, trivial⟩⟩⟩⟩⟩⟩ ?_
      exact ok_M_swap_38 FU v3.1 (-4) (nI 0) v3.2 _ hf
def M_seal_93 (k38 : Int32 → Int32 → Int32 → sg → Option (Int32 × sg)) (x1 : Int32) (x2 : Int32) (x3 : Int32) (x5 : Int32) (x6 : Int32) (y0 : Int32) (s : sg) : Option (Int32 × sg) :=
  if x6 < x3 then
    k38 x6 y0 (x5 + (nI 1)) s
  else
    k38 x3 y0 (x5 + (nI 1)) s
set_option maxRecDepth 100000 in
theorem ok_M_seal_93 {k38 : Int32 → Int32 → Int32 → sg → Option (Int32 × sg)} {x1 : Int32} {x2 : Int32} {x3 : Int32} {x5 : Int32} {x6 : Int32} {y0 : Int32} {s : sg} {rv : (Int32 × sg)} (hk38 : ∀ (x3 : Int32) (x4 : Int32) (x5 : Int32) (s : sg) (rv : (Int32 × sg)), k38 x3 x4 x5 s = some rv → mEnds [] 5 162 (38, [some (.ref 10), some (.int x1), some (.int x2), some (.int x3), some (.int x4), some (.int x5), none], [], hp shM s, 0, 0) (some (.int rv.1), hp shM rv.2, 0, 0)) (hf : M_seal_93 k38 x1 x2 x3 x5 x6 y0 s = some rv) : mEnds [] 5 162 (93, [some (.ref 10), some (.int x1), some (.int x2), some (.int x3), none, some (.int x5), some (.int x6)], [.int y0], hp shM s, 0, 0) (some (.int rv.1), hp shM rv.2, 0, 0) := by
  unfold M_seal_93 at hf
  refine mEnds.stp 3 (pc' := 98) (l' := [some (.ref 10), some (.int x1), some (.int x2), some (.int x3), some (.int y0), some (.int x5), some (.int x6)]) (st' := [.int x3, .int x6]) (fun _ => rfl) ?_
  by_cases hc1 : x6 < x3
  · rw [if_pos hc1] at hf
    refine t_cF (rfl : mfetch 162 98 = some (98, .if_icmp .ge 8, 3, 0, 0, 0)) (k_ge' hc1) ?_
    refine mEnds.stp 5 (pc' := 38) (l' := [some (.ref 10), some (.int x1), some (.int x2), some (.int x6), some (.int y0), some (.int (x5 + (nI 1))), some (.int x6)]) (st' := []) (fun _ => rfl) ?_
    refine mEnds.cut (l := [some (.ref 10), some (.int x1), some (.int x2), some (.int x6), some (.int y0), some (.int (x5 + (nI 1))), none]) ⟨rfl, ⟨rfl, ⟨rfl, ⟨rfl, ⟨rfl, ⟨rfl, trivial⟩⟩⟩⟩⟩⟩ ?_
    exact hk38 x6 y0 (x5 + (nI 1)) s _ hf
  · rw [if_neg hc1] at hf
    refine t_cT (t := 106) (rfl : mfetch 162 98 = some (98, .if_icmp .ge 8, 3, 0, 0, 0)) rfl (k_ge hc1) ?_
    refine mEnds.stp 4 (pc' := 38) (l' := [some (.ref 10), some (.int x1), some (.int x2), some (.int x3), some (.int y0), some (.int (x5 + (nI 1))), some (.int x6)]) (st' := []) (fun _ => rfl) ?_
    refine mEnds.cut (l := [some (.ref 10), some (.int x1), some (.int x2), some (.int x3), some (.int y0), some (.int (x5 + (nI 1))), none]) ⟨rfl, ⟨rfl, ⟨rfl, ⟨rfl, ⟨rfl, ⟨rfl, trivial⟩⟩⟩⟩⟩⟩ ?_
    exact hk38 x3 y0 (x5 + (nI 1)) s _ hf
def M_seal_38 (x1 : Int32) (x2 : Int32) : Nat → Int32 → Int32 → Int32 → sg → Option (Int32 × sg)
  | 0, _, _, _, _ => none
  | fu + 1, x3, x4, x5, s =>
  if x5 < (s 10 1) - (nI 1) then
    (M_copies (nI 0) (nI 260) s).bind fun s1 =>
    (midx ((nI 296) + x5) 312).bind fun j1 =>
    (some (up s1 11 j1 (-2))).bind fun s2 =>
    (M_hoursGo (nI 260) x1 s2).bind fun v2 =>
    if v2.1 < x3 then
      M_seal_93 (M_seal_38 x1 x2 fu) x1 x2 x3 x5 v2.1 x5 v2.2
    else
      M_seal_93 (M_seal_38 x1 x2 fu) x1 x2 x3 x5 v2.1 x4 v2.2
  else
    if x4 = (-4) then
      some (x4, s)
    else
      if x2 = 0 then
        some (x4, s)
      else
        some (x3, s)
set_option maxRecDepth 100000 in
theorem ok_M_seal_38 {x1 : Int32} {x2 : Int32} : ∀ (fu : Nat) (x3 : Int32) (x4 : Int32) (x5 : Int32) (s : sg) (rv : (Int32 × sg)), M_seal_38 x1 x2 fu x3 x4 x5 s = some rv → mEnds [] 5 162 (38, [some (.ref 10), some (.int x1), some (.int x2), some (.int x3), some (.int x4), some (.int x5), none], [], hp shM s, 0, 0) (some (.int rv.1), hp shM rv.2, 0, 0)
  | 0, _, _, _, _, _, hf => by cases hf
  | fu + 1, x3, x4, x5, s, rv, hf => by
    rw [M_seal_38] at hf
    refine mEnds.stp 2 (pc' := 41) (l' := [some (.ref 10), some (.int x1), some (.int x2), some (.int x3), some (.int x4), some (.int x5), none]) (st' := [.ref 10, .int x5]) (fun _ => rfl) ?_
    refine t_gi (rfl : mfetch 162 41 = some (41, .getfield 139, 3, 5, 1, 0)) rfl rfl ?_
    refine mEnds.stp 2 (pc' := 46) (l' := [some (.ref 10), some (.int x1), some (.int x2), some (.int x3), some (.int x4), some (.int x5), none]) (st' := [.int ((s 10 1) - (nI 1)), .int x5]) (fun _ => rfl) ?_
    by_cases hc1 : x5 < (s 10 1) - (nI 1)
    · rw [if_pos hc1] at hf
      refine t_cF (rfl : mfetch 162 46 = some (46, .if_icmp .ge 68, 3, 0, 0, 0)) (k_ge' hc1) ?_
      refine mEnds.stp 3 (pc' := 54) (l' := [some (.ref 10), some (.int x1), some (.int x2), some (.int x3), some (.int x4), some (.int x5), none]) (st' := [.int (nI 260), .int (nI 0), .ref 10]) (fun _ => rfl) ?_
      obtain ⟨s1, hs1, hf⟩ := ob hf
      refine t_cv (as := [.int (nI 0), .int (nI 260)]) (st := []) (rfl : mfetch 162 54 = some (54, .invokevirtual 201, 3, 152, 0, 0)) rfl rfl rfl rfl rfl ((ok_M_copies hs1).deep 4) ?_
      refine mEnds.stp 1 (pc' := 58) (l' := [some (.ref 10), some (.int x1), some (.int x2), some (.int x3), some (.int x4), some (.int x5), none]) (st' := [.ref 10]) (fun _ => rfl) ?_
      refine t_gr (rfl : mfetch 162 58 = some (58, .getfield 7, 3, 5, 0, 0)) rfl rfl ?_
      refine mEnds.stp 4 (pc' := 69) (l' := [some (.ref 10), some (.int x1), some (.int x2), some (.int x3), some (.int x4), some (.int x5), none]) (st' := [.int (-2), .int ((nI 296) + x5), .ref 11]) (fun _ => rfl) ?_
      obtain ⟨j1, hj1, hf⟩ := ob hf
      obtain ⟨s2, hs2, hf⟩ := ob hf
      refine t_is (rfl : mfetch 162 69 = some (69, .iastore, 1, 0, 0, 0)) rfl rfl hj1 hs2 ?_
      refine mEnds.stp 3 (pc' := 75) (l' := [some (.ref 10), some (.int x1), some (.int x2), some (.int x3), some (.int x4), some (.int x5), none]) (st' := [.int x1, .int (nI 260), .ref 10]) (fun _ => rfl) ?_
      obtain ⟨v2, hv2, hf⟩ := ob hf
      refine t_cv (as := [.int (nI 260), .int x1]) (st := []) (rfl : mfetch 162 75 = some (75, .invokevirtual 215, 3, 153, 0, 0)) rfl rfl rfl rfl rfl (ok_M_hoursGo hv2) ?_
      refine mEnds.stp 3 (pc' := 83) (l' := [some (.ref 10), some (.int x1), some (.int x2), some (.int x3), some (.int x4), some (.int x5), some (.int v2.1)]) (st' := [.int x3, .int v2.1]) (fun _ => rfl) ?_
      by_cases hc4 : v2.1 < x3
      · rw [if_pos hc4] at hf
        refine t_cF (rfl : mfetch 162 83 = some (83, .if_icmp .ge 8, 3, 0, 0, 0)) (k_ge' hc4) ?_
        refine mEnds.stp 2 (pc' := 93) (l' := [some (.ref 10), some (.int x1), some (.int x2), some (.int x3), some (.int x4), some (.int x5), some (.int v2.1)]) (st' := [.int x5]) (fun _ => rfl) ?_
        refine mEnds.cut (l := [some (.ref 10), some (.int x1), some (.int x2), some (.int x3), none, some (.int x5), some (.int v2.1)]) ⟨rfl, ⟨rfl, ⟨rfl, ⟨rfl, ⟨rfl, ⟨rfl, trivial⟩⟩⟩⟩⟩⟩ ?_
        exact ok_M_seal_93 (ok_M_seal_38 fu) hf
      · rw [if_neg hc4] at hf
        refine t_cT (t := 91) (rfl : mfetch 162 83 = some (83, .if_icmp .ge 8, 3, 0, 0, 0)) rfl (k_ge hc4) ?_
        refine mEnds.stp 1 (pc' := 93) (l' := [some (.ref 10), some (.int x1), some (.int x2), some (.int x3), some (.int x4), some (.int x5), some (.int v2.1)]) (st' := [.int x4]) (fun _ => rfl) ?_
        refine mEnds.cut (l := [some (.ref 10), some (.int x1), some (.int x2), some (.int x3), none, some (.int x5), some (.int v2.1)]) ⟨rfl, ⟨rfl, ⟨rfl, ⟨rfl, ⟨rfl, ⟨rfl, trivial⟩⟩⟩⟩⟩⟩ ?_
        exact ok_M_seal_93 (ok_M_seal_38 fu) hf
    · rw [if_neg hc1] at hf
      refine t_cT (t := 114) (rfl : mfetch 162 46 = some (46, .if_icmp .ge 68, 3, 0, 0, 0)) rfl (k_ge hc1) ?_
      refine mEnds.stp 2 (pc' := 118) (l' := [some (.ref 10), some (.int x1), some (.int x2), some (.int x3), some (.int x4), some (.int x5), none]) (st' := [.int (-4), .int x4]) (fun _ => rfl) ?_
      by_cases hc2 : x4 = (-4)
      · rw [if_pos hc2] at hf
        refine t_cT (t := 125) (rfl : mfetch 162 118 = some (118, .if_icmp .eq 7, 3, 0, 0, 0)) rfl (k_eq hc2) ?_
        refine mEnds.stp 2 (pc' := 131) (l' := [some (.ref 10), some (.int x1), some (.int x2), some (.int x3), some (.int x4), some (.int x5), none]) (st' := [.int x4]) (fun _ => rfl) ?_
        exact mEnds.rti (Option.some.inj hf) (fun _ => rfl)
      · rw [if_neg hc2] at hf
        refine t_cF (rfl : mfetch 162 118 = some (118, .if_icmp .eq 7, 3, 0, 0, 0)) (k_eq' hc2) ?_
        refine mEnds.stp 1 (pc' := 122) (l' := [some (.ref 10), some (.int x1), some (.int x2), some (.int x3), some (.int x4), some (.int x5), none]) (st' := [.int x2]) (fun _ => rfl) ?_
        by_cases hc3 : x2 = 0
        · rw [if_pos hc3] at hf
          refine t_jF (rfl : mfetch 162 122 = some (122, .ifCond .ne 8, 3, 0, 0, 0)) (k_ne' hc3) ?_
          refine mEnds.stp 2 (pc' := 131) (l' := [some (.ref 10), some (.int x1), some (.int x2), some (.int x3), some (.int x4), some (.int x5), none]) (st' := [.int x4]) (fun _ => rfl) ?_
          exact mEnds.rti (Option.some.inj hf) (fun _ => rfl)
        · rw [if_neg hc3] at hf
          refine t_jT (t := 130) (rfl : mfetch 162 122 = some (122, .ifCond .ne 8, 3, 0, 0, 0)) rfl (k_ne hc3) ?_
          refine mEnds.stp 1 (pc' := 131) (l' := [some (.ref 10), some (.int x1), some (.int x2), some (.int x3), some (.int x4), some (.int x5), none]) (st' := [.int x3]) (fun _ => rfl) ?_
          exact mEnds.rti (Option.some.inj hf) (fun _ => rfl)
def M_seal (x1 : Int32) (x2 : Int32) (s : sg) : Option (Int32 × sg) :=
  (M_in x1.toInt64 (0 : Int64) (60 : Int64) s).bind fun v1 =>
  if v1 = 0 then
    some ((-1), s)
  else
    (M_in x2.toInt64 (0 : Int64) (1 : Int64) s).bind fun v2 =>
    if v2 = 0 then
      some ((-1), s)
    else
      (M_hoursGo (nI 0) x1 s).bind fun v3 =>
      M_seal_38 x1 x2 FU v3.1 (-4) (nI 0) v3.2
set_option maxRecDepth 100000 in
theorem ok_M_seal {x1 : Int32} {x2 : Int32} {s : sg} {rv : (Int32 × sg)} (hf : M_seal x1 x2 s = some rv) : mEnds [] 5 162 (0, [some (.ref 10), some (.int x1), some (.int x2), none, none, none, none], [], hp shM s, 0, 0) (some (.int rv.1), hp shM rv.2, 0, 0) := by
  unfold M_seal at hf
  refine mEnds.stp 4 (pc' := 6) (l' := [some (.ref 10), some (.int x1), some (.int x2), none, none, none, none]) (st' := [.long (60 : Int64), .long (0 : Int64), .long x1.toInt64]) (fun _ => rfl) ?_
  obtain ⟨v1, hv1, hf⟩ := ob hf
  refine t_cs (as := [.long x1.toInt64, .long (0 : Int64), .long (60 : Int64)]) (st := []) (Or.inl rfl) (rfl : mfetch 162 6 = some (6, .invokestatic 49, 3, 111, 0, 0)) rfl rfl rfl ((ok_M_in hv1).deep 4) ?_
  by_cases hc1 : v1 = 0
  · rw [if_pos hc1] at hf
    refine t_jT (t := 22) (rfl : mfetch 162 9 = some (9, .ifCond .eq 13, 3, 0, 0, 0)) rfl (k_eq hc1) ?_
    refine mEnds.stp 1 (pc' := 23) (l' := [some (.ref 10), some (.int x1), some (.int x2), none, none, none, none]) (st' := [.int (-1)]) (fun _ => rfl) ?_
    exact mEnds.rti (Option.some.inj hf) (fun _ => rfl)
  · rw [if_neg hc1] at hf
    refine t_jF (rfl : mfetch 162 9 = some (9, .ifCond .eq 13, 3, 0, 0, 0)) (k_eq' hc1) ?_
    refine mEnds.stp 4 (pc' := 16) (l' := [some (.ref 10), some (.int x1), some (.int x2), none, none, none, none]) (st' := [.long (1 : Int64), .long (0 : Int64), .long x2.toInt64]) (fun _ => rfl) ?_
    obtain ⟨v2, hv2, hf⟩ := ob hf
    refine t_cs (as := [.long x2.toInt64, .long (0 : Int64), .long (1 : Int64)]) (st := []) (Or.inl rfl) (rfl : mfetch 162 16 = some (16, .invokestatic 49, 3, 111, 0, 0)) rfl rfl rfl ((ok_M_in hv2).deep 4) ?_
    by_cases hc2 : v2 = 0
    · rw [if_pos hc2] at hf
      refine t_jF (rfl : mfetch 162 19 = some (19, .ifCond .ne 5, 3, 0, 0, 0)) (k_ne' hc2) ?_
      refine mEnds.stp 1 (pc' := 23) (l' := [some (.ref 10), some (.int x1), some (.int x2), none, none, none, none]) (st' := [.int (-1)]) (fun _ => rfl) ?_
      exact mEnds.rti (Option.some.inj hf) (fun _ => rfl)
    · rw [if_neg hc2] at hf
      refine t_jT (t := 24) (rfl : mfetch 162 19 = some (19, .ifCond .ne 5, 3, 0, 0, 0)) rfl (k_ne hc2) ?_
      refine mEnds.stp 3 (pc' := 27) (l' := [some (.ref 10), some (.int x1), some (.int x2), none, none, none, none]) (st' := [.int x1, .int (nI 0), .ref 10]) (fun _ => rfl) ?_
      obtain ⟨v3, hv3, hf⟩ := ob hf
      refine t_cv (as := [.int (nI 0), .int x1]) (st := []) (rfl : mfetch 162 27 = some (27, .invokevirtual 215, 3, 153, 0, 0)) rfl rfl rfl rfl rfl (ok_M_hoursGo hv3) ?_
      refine mEnds.stp 5 (pc' := 38) (l' := [some (.ref 10), some (.int x1), some (.int x2), some (.int v3.1), some (.int (-4)), some (.int (nI 0)), none]) (st' := []) (fun _ => rfl) ?_
      refine mEnds.cut (l := [some (.ref 10), some (.int x1), some (.int x2), some (.int v3.1), some (.int (-4)), some (.int (nI 0)), none]) ⟨rfl, ⟨rfl, ⟨rfl, ⟨rfl, ⟨rfl, ⟨rfl, trivial⟩⟩⟩⟩⟩⟩ ?_
      exact ok_M_seal_38 FU v3.1 (-4) (nI 0) v3.2 _ hf
def M_spare_126 (k47 : Int32 → Int32 → Int32 → sg → Option (Int32 × sg)) (x1 : Int32) (x2 : Int32) (x3 : Int32) (x4 : Int32) (x6 : Int32) (x7 : Int32) (x8 : Int32) (y0 : Int32) (s : sg) : Option (Int32 × sg) :=
  if x8 = 0 then
    k47 x4 y0 (x6 + (nI 1)) s
  else
    k47 x7 y0 (x6 + (nI 1)) s
set_option maxRecDepth 100000 in
theorem ok_M_spare_126 {k47 : Int32 → Int32 → Int32 → sg → Option (Int32 × sg)} {x1 : Int32} {x2 : Int32} {x3 : Int32} {x4 : Int32} {x6 : Int32} {x7 : Int32} {x8 : Int32} {y0 : Int32} {s : sg} {rv : (Int32 × sg)} (hk47 : ∀ (x4 : Int32) (x5 : Int32) (x6 : Int32) (s : sg) (rv : (Int32 × sg)), k47 x4 x5 x6 s = some rv → mEnds [] 5 163 (47, [some (.ref 10), some (.int x1), some (.int x2), some (.int x3), some (.int x4), some (.int x5), some (.int x6), none, none], [], hp shM s, 0, 0) (some (.int rv.1), hp shM rv.2, 0, 0)) (hf : M_spare_126 k47 x1 x2 x3 x4 x6 x7 x8 y0 s = some rv) : mEnds [] 5 163 (126, [some (.ref 10), some (.int x1), some (.int x2), some (.int x3), some (.int x4), none, some (.int x6), some (.int x7), some (.int x8)], [.int y0], hp shM s, 0, 0) (some (.int rv.1), hp shM rv.2, 0, 0) := by
  unfold M_spare_126 at hf
  refine mEnds.stp 2 (pc' := 130) (l' := [some (.ref 10), some (.int x1), some (.int x2), some (.int x3), some (.int x4), some (.int y0), some (.int x6), some (.int x7), some (.int x8)]) (st' := [.int x8]) (fun _ => rfl) ?_
  by_cases hc1 : x8 = 0
  · rw [if_pos hc1] at hf
    refine t_jT (t := 138) (rfl : mfetch 163 130 = some (130, .ifCond .eq 8, 3, 0, 0, 0)) rfl (k_eq hc1) ?_
    refine mEnds.stp 4 (pc' := 47) (l' := [some (.ref 10), some (.int x1), some (.int x2), some (.int x3), some (.int x4), some (.int y0), some (.int (x6 + (nI 1))), some (.int x7), some (.int x8)]) (st' := []) (fun _ => rfl) ?_
    refine mEnds.cut (l := [some (.ref 10), some (.int x1), some (.int x2), some (.int x3), some (.int x4), some (.int y0), some (.int (x6 + (nI 1))), none, none]) ⟨rfl, ⟨rfl, ⟨rfl, ⟨rfl, ⟨rfl, ⟨rfl, ⟨rfl, trivial⟩⟩⟩⟩⟩⟩⟩ ?_
    exact hk47 x4 y0 (x6 + (nI 1)) s _ hf
  · rw [if_neg hc1] at hf
    refine t_jF (rfl : mfetch 163 130 = some (130, .ifCond .eq 8, 3, 0, 0, 0)) (k_eq' hc1) ?_
    refine mEnds.stp 5 (pc' := 47) (l' := [some (.ref 10), some (.int x1), some (.int x2), some (.int x3), some (.int x7), some (.int y0), some (.int (x6 + (nI 1))), some (.int x7), some (.int x8)]) (st' := []) (fun _ => rfl) ?_
    refine mEnds.cut (l := [some (.ref 10), some (.int x1), some (.int x2), some (.int x3), some (.int x7), some (.int y0), some (.int (x6 + (nI 1))), none, none]) ⟨rfl, ⟨rfl, ⟨rfl, ⟨rfl, ⟨rfl, ⟨rfl, ⟨rfl, trivial⟩⟩⟩⟩⟩⟩⟩ ?_
    exact hk47 x7 y0 (x6 + (nI 1)) s _ hf
def M_spare_112 (k47 : Int32 → Int32 → Int32 → sg → Option (Int32 × sg)) (x1 : Int32) (x2 : Int32) (x3 : Int32) (x4 : Int32) (x5 : Int32) (x6 : Int32) (x7 : Int32) (y0 : Int32) (s : sg) : Option (Int32 × sg) :=
  if y0 = 0 then
    M_spare_126 k47 x1 x2 x3 x4 x6 x7 y0 x5 s
  else
    M_spare_126 k47 x1 x2 x3 x4 x6 x7 y0 x6 s
set_option maxRecDepth 100000 in
theorem ok_M_spare_112 {k47 : Int32 → Int32 → Int32 → sg → Option (Int32 × sg)} {x1 : Int32} {x2 : Int32} {x3 : Int32} {x4 : Int32} {x5 : Int32} {x6 : Int32} {x7 : Int32} {y0 : Int32} {s : sg} {rv : (Int32 × sg)} (hk47 : ∀ (x4 : Int32) (x5 : Int32) (x6 : Int32) (s : sg) (rv : (Int32 × sg)), k47 x4 x5 x6 s = some rv → mEnds [] 5 163 (47, [some (.ref 10), some (.int x1), some (.int x2), some (.int x3), some (.int x4), some (.int x5), some (.int x6), none, none], [], hp shM s, 0, 0) (some (.int rv.1), hp shM rv.2, 0, 0)) (hf : M_spare_112 k47 x1 x2 x3 x4 x5 x6 x7 y0 s = some rv) : mEnds [] 5 163 (112, [some (.ref 10), some (.int x1), some (.int x2), some (.int x3), some (.int x4), some (.int x5), some (.int x6), some (.int x7), none], [.int y0], hp shM s, 0, 0) (some (.int rv.1), hp shM rv.2, 0, 0) := by
  unfold M_spare_112 at hf
  refine mEnds.stp 2 (pc' := 116) (l' := [some (.ref 10), some (.int x1), some (.int x2), some (.int x3), some (.int x4), some (.int x5), some (.int x6), some (.int x7), some (.int y0)]) (st' := [.int y0]) (fun _ => rfl) ?_
  by_cases hc1 : y0 = 0
  · rw [if_pos hc1] at hf
    refine t_jT (t := 124) (rfl : mfetch 163 116 = some (116, .ifCond .eq 8, 3, 0, 0, 0)) rfl (k_eq hc1) ?_
    refine mEnds.stp 1 (pc' := 126) (l' := [some (.ref 10), some (.int x1), some (.int x2), some (.int x3), some (.int x4), some (.int x5), some (.int x6), some (.int x7), some (.int y0)]) (st' := [.int x5]) (fun _ => rfl) ?_
    refine mEnds.cut (l := [some (.ref 10), some (.int x1), some (.int x2), some (.int x3), some (.int x4), none, some (.int x6), some (.int x7), some (.int y0)]) ⟨rfl, ⟨rfl, ⟨rfl, ⟨rfl, ⟨rfl, ⟨rfl, ⟨rfl, ⟨rfl, trivial⟩⟩⟩⟩⟩⟩⟩⟩ ?_
    exact ok_M_spare_126 hk47 hf
  · rw [if_neg hc1] at hf
    refine t_jF (rfl : mfetch 163 116 = some (116, .ifCond .eq 8, 3, 0, 0, 0)) (k_eq' hc1) ?_
    refine mEnds.stp 2 (pc' := 126) (l' := [some (.ref 10), some (.int x1), some (.int x2), some (.int x3), some (.int x4), some (.int x5), some (.int x6), some (.int x7), some (.int y0)]) (st' := [.int x6]) (fun _ => rfl) ?_
    refine mEnds.cut (l := [some (.ref 10), some (.int x1), some (.int x2), some (.int x3), some (.int x4), none, some (.int x6), some (.int x7), some (.int y0)]) ⟨rfl, ⟨rfl, ⟨rfl, ⟨rfl, ⟨rfl, ⟨rfl, ⟨rfl, ⟨rfl, trivial⟩⟩⟩⟩⟩⟩⟩⟩ ?_
    exact ok_M_spare_126 hk47 hf
def M_spare_111 (k47 : Int32 → Int32 → Int32 → sg → Option (Int32 × sg)) (x1 : Int32) (x2 : Int32) (x3 : Int32) (x4 : Int32) (x5 : Int32) (x6 : Int32) (x7 : Int32) (s : sg) : Option (Int32 × sg) :=
  M_spare_112 k47 x1 x2 x3 x4 x5 x6 x7 (nI 0) s
set_option maxRecDepth 100000 in
theorem ok_M_spare_111 {k47 : Int32 → Int32 → Int32 → sg → Option (Int32 × sg)} {x1 : Int32} {x2 : Int32} {x3 : Int32} {x4 : Int32} {x5 : Int32} {x6 : Int32} {x7 : Int32} {s : sg} {rv : (Int32 × sg)} (hk47 : ∀ (x4 : Int32) (x5 : Int32) (x6 : Int32) (s : sg) (rv : (Int32 × sg)), k47 x4 x5 x6 s = some rv → mEnds [] 5 163 (47, [some (.ref 10), some (.int x1), some (.int x2), some (.int x3), some (.int x4), some (.int x5), some (.int x6), none, none], [], hp shM s, 0, 0) (some (.int rv.1), hp shM rv.2, 0, 0)) (hf : M_spare_111 k47 x1 x2 x3 x4 x5 x6 x7 s = some rv) : mEnds [] 5 163 (111, [some (.ref 10), some (.int x1), some (.int x2), some (.int x3), some (.int x4), some (.int x5), some (.int x6), some (.int x7), none], [], hp shM s, 0, 0) (some (.int rv.1), hp shM rv.2, 0, 0) := by
  unfold M_spare_111 at hf
  refine mEnds.stp 1 (pc' := 112) (l' := [some (.ref 10), some (.int x1), some (.int x2), some (.int x3), some (.int x4), some (.int x5), some (.int x6), some (.int x7), none]) (st' := [.int (nI 0)]) (fun _ => rfl) ?_
  refine mEnds.cut (l := [some (.ref 10), some (.int x1), some (.int x2), some (.int x3), some (.int x4), some (.int x5), some (.int x6), some (.int x7), none]) ⟨rfl, ⟨rfl, ⟨rfl, ⟨rfl, ⟨rfl, ⟨rfl, ⟨rfl, ⟨rfl, trivial⟩⟩⟩⟩⟩⟩⟩⟩ ?_
  exact ok_M_spare_112 hk47 hf
def M_spare_47 (x1 : Int32) (x2 : Int32) (x3 : Int32) : Nat → Int32 → Int32 → Int32 → sg → Option (Int32 × sg)
  | 0, _, _, _, _ => none
  | fu + 1, x4, x5, x6, s =>
  if x6 < s 10 1 then
    (M_hasTongue x6 s).bind fun v1 =>
    if v1 = 0 then
      M_spare_47 x1 x2 x3 fu x4 x5 (x6 + (nI 1)) s
    else
      (M_copies (nI 0) (nI 260) s).bind fun s1 =>
      (M_stripsOn (nI 260) x6 s1).bind fun s2 =>
      (M_hoursGo (nI 260) x1 s2).bind fun v4 =>
      if v4.2 10 20 < x2 then
        M_spare_111 (M_spare_47 x1 x2 x3 fu) x1 x2 x3 x4 x5 x6 v4.1 v4.2
      else
        if v4.1 < x4 then
          M_spare_112 (M_spare_47 x1 x2 x3 fu) x1 x2 x3 x4 x5 x6 v4.1 (nI 1) v4.2
        else
          M_spare_111 (M_spare_47 x1 x2 x3 fu) x1 x2 x3 x4 x5 x6 v4.1 v4.2
  else
    if x5 = (-4) then
      some (x5, s)
    else
      if x3 = 0 then
        some (x5, s)
      else
        some (x4, s)
set_option maxRecDepth 100000 in
theorem ok_M_spare_47 {x1 : Int32} {x2 : Int32} {x3 : Int32} : ∀ (fu : Nat) (x4 : Int32) (x5 : Int32) (x6 : Int32) (s : sg) (rv : (Int32 × sg)), M_spare_47 x1 x2 x3 fu x4 x5 x6 s = some rv → mEnds [] 5 163 (47, [some (.ref 10), some (.int x1), some (.int x2), some (.int x3), some (.int x4), some (.int x5), some (.int x6), none, none], [], hp shM s, 0, 0) (some (.int rv.1), hp shM rv.2, 0, 0)
  | 0, _, _, _, _, _, hf => by cases hf
  | fu + 1, x4, x5, x6, s, rv, hf => by
    rw [M_spare_47] at hf
    refine mEnds.stp 2 (pc' := 50) (l' := [some (.ref 10), some (.int x1), some (.int x2), some (.int x3), some (.int x4), some (.int x5), some (.int x6), none, none]) (st' := [.ref 10, .int x6]) (fun _ => rfl) ?_
    refine t_gi (rfl : mfetch 163 50 = some (50, .getfield 139, 3, 5, 1, 0)) rfl rfl ?_
    by_cases hc1 : x6 < s 10 1
    · rw [if_pos hc1] at hf
      refine t_cF (rfl : mfetch 163 53 = some (53, .if_icmp .ge 95, 3, 0, 0, 0)) (k_ge' hc1) ?_
      refine mEnds.stp 2 (pc' := 59) (l' := [some (.ref 10), some (.int x1), some (.int x2), some (.int x3), some (.int x4), some (.int x5), some (.int x6), none, none]) (st' := [.int x6, .ref 10]) (fun _ => rfl) ?_
      obtain ⟨v1, hv1, hf⟩ := ob hf
      refine t_cv (as := [.int x6]) (st := []) (rfl : mfetch 163 59 = some (59, .invokevirtual 173, 3, 128, 0, 0)) rfl rfl rfl rfl rfl ((ok_M_hasTongue hv1).deep 4) ?_
      by_cases hc4 : v1 = 0
      · rw [if_pos hc4] at hf
        refine t_jT (t := 142) (rfl : mfetch 163 62 = some (62, .ifCond .eq 80, 3, 0, 0, 0)) rfl (k_eq hc4) ?_
        refine mEnds.stp 2 (pc' := 47) (l' := [some (.ref 10), some (.int x1), some (.int x2), some (.int x3), some (.int x4), some (.int x5), some (.int (x6 + (nI 1))), none, none]) (st' := []) (fun _ => rfl) ?_
        refine mEnds.cut (l := [some (.ref 10), some (.int x1), some (.int x2), some (.int x3), some (.int x4), some (.int x5), some (.int (x6 + (nI 1))), none, none]) ⟨rfl, ⟨rfl, ⟨rfl, ⟨rfl, ⟨rfl, ⟨rfl, ⟨rfl, trivial⟩⟩⟩⟩⟩⟩⟩ ?_
        exact ok_M_spare_47 fu x4 x5 (x6 + (nI 1)) s _ hf
      · rw [if_neg hc4] at hf
        refine t_jF (rfl : mfetch 163 62 = some (62, .ifCond .eq 80, 3, 0, 0, 0)) (k_eq' hc4) ?_
        refine mEnds.stp 3 (pc' := 70) (l' := [some (.ref 10), some (.int x1), some (.int x2), some (.int x3), some (.int x4), some (.int x5), some (.int x6), none, none]) (st' := [.int (nI 260), .int (nI 0), .ref 10]) (fun _ => rfl) ?_
        obtain ⟨s1, hs1, hf⟩ := ob hf
        refine t_cv (as := [.int (nI 0), .int (nI 260)]) (st := []) (rfl : mfetch 163 70 = some (70, .invokevirtual 201, 3, 152, 0, 0)) rfl rfl rfl rfl rfl ((ok_M_copies hs1).deep 4) ?_
        refine mEnds.stp 3 (pc' := 79) (l' := [some (.ref 10), some (.int x1), some (.int x2), some (.int x3), some (.int x4), some (.int x5), some (.int x6), none, none]) (st' := [.int x6, .int (nI 260), .ref 10]) (fun _ => rfl) ?_
        obtain ⟨s2, hs2, hf⟩ := ob hf
        refine t_cv (as := [.int (nI 260), .int x6]) (st := []) (rfl : mfetch 163 79 = some (79, .invokevirtual 191, 3, 145, 0, 0)) rfl rfl rfl rfl rfl ((ok_M_stripsOn hs2).deep 4) ?_
        refine mEnds.stp 3 (pc' := 87) (l' := [some (.ref 10), some (.int x1), some (.int x2), some (.int x3), some (.int x4), some (.int x5), some (.int x6), none, none]) (st' := [.int x1, .int (nI 260), .ref 10]) (fun _ => rfl) ?_
        obtain ⟨v4, hv4, hf⟩ := ob hf
        refine t_cv (as := [.int (nI 260), .int x1]) (st := []) (rfl : mfetch 163 87 = some (87, .invokevirtual 215, 3, 153, 0, 0)) rfl rfl rfl rfl rfl (ok_M_hoursGo hv4) ?_
        refine mEnds.stp 2 (pc' := 93) (l' := [some (.ref 10), some (.int x1), some (.int x2), some (.int x3), some (.int x4), some (.int x5), some (.int x6), some (.int v4.1), none]) (st' := [.ref 10]) (fun _ => rfl) ?_
        refine t_gi (rfl : mfetch 163 93 = some (93, .getfield 210, 3, 5, 20, 0)) rfl rfl ?_
        refine mEnds.stp 1 (pc' := 97) (l' := [some (.ref 10), some (.int x1), some (.int x2), some (.int x3), some (.int x4), some (.int x5), some (.int x6), some (.int v4.1), none]) (st' := [.int x2, .int (v4.2 10 20)]) (fun _ => rfl) ?_
        by_cases hc5 : v4.2 10 20 < x2
        · rw [if_pos hc5] at hf
          refine t_cT (t := 111) (rfl : mfetch 163 97 = some (97, .if_icmp .lt 14, 3, 0, 0, 0)) rfl (k_lt hc5) ?_
          refine mEnds.cut (l := [some (.ref 10), some (.int x1), some (.int x2), some (.int x3), some (.int x4), some (.int x5), some (.int x6), some (.int v4.1), none]) ⟨rfl, ⟨rfl, ⟨rfl, ⟨rfl, ⟨rfl, ⟨rfl, ⟨rfl, ⟨rfl, trivial⟩⟩⟩⟩⟩⟩⟩⟩ ?_
          exact ok_M_spare_111 (ok_M_spare_47 fu) hf
        · rw [if_neg hc5] at hf
          refine t_cF (rfl : mfetch 163 97 = some (97, .if_icmp .lt 14, 3, 0, 0, 0)) (k_lt' hc5) ?_
          refine mEnds.stp 2 (pc' := 104) (l' := [some (.ref 10), some (.int x1), some (.int x2), some (.int x3), some (.int x4), some (.int x5), some (.int x6), some (.int v4.1), none]) (st' := [.int x4, .int v4.1]) (fun _ => rfl) ?_
          by_cases hc6 : v4.1 < x4
          · rw [if_pos hc6] at hf
            refine t_cF (rfl : mfetch 163 104 = some (104, .if_icmp .ge 7, 3, 0, 0, 0)) (k_ge' hc6) ?_
            refine mEnds.stp 2 (pc' := 112) (l' := [some (.ref 10), some (.int x1), some (.int x2), some (.int x3), some (.int x4), some (.int x5), some (.int x6), some (.int v4.1), none]) (st' := [.int (nI 1)]) (fun _ => rfl) ?_
            refine mEnds.cut (l := [some (.ref 10), some (.int x1), some (.int x2), some (.int x3), some (.int x4), some (.int x5), some (.int x6), some (.int v4.1), none]) ⟨rfl, ⟨rfl, ⟨rfl, ⟨rfl, ⟨rfl, ⟨rfl, ⟨rfl, ⟨rfl, trivial⟩⟩⟩⟩⟩⟩⟩⟩ ?_
            exact ok_M_spare_112 (ok_M_spare_47 fu) hf
          · rw [if_neg hc6] at hf
            refine t_cT (t := 111) (rfl : mfetch 163 104 = some (104, .if_icmp .ge 7, 3, 0, 0, 0)) rfl (k_ge hc6) ?_
            refine mEnds.cut (l := [some (.ref 10), some (.int x1), some (.int x2), some (.int x3), some (.int x4), some (.int x5), some (.int x6), some (.int v4.1), none]) ⟨rfl, ⟨rfl, ⟨rfl, ⟨rfl, ⟨rfl, ⟨rfl, ⟨rfl, ⟨rfl, trivial⟩⟩⟩⟩⟩⟩⟩⟩ ?_
            exact ok_M_spare_111 (ok_M_spare_47 fu) hf
    · rw [if_neg hc1] at hf
      refine t_cT (t := 148) (rfl : mfetch 163 53 = some (53, .if_icmp .ge 95, 3, 0, 0, 0)) rfl (k_ge hc1) ?_
      refine mEnds.stp 2 (pc' := 152) (l' := [some (.ref 10), some (.int x1), some (.int x2), some (.int x3), some (.int x4), some (.int x5), some (.int x6), none, none]) (st' := [.int (-4), .int x5]) (fun _ => rfl) ?_
      by_cases hc2 : x5 = (-4)
      · rw [if_pos hc2] at hf
        refine t_cT (t := 159) (rfl : mfetch 163 152 = some (152, .if_icmp .eq 7, 3, 0, 0, 0)) rfl (k_eq hc2) ?_
        refine mEnds.stp 2 (pc' := 166) (l' := [some (.ref 10), some (.int x1), some (.int x2), some (.int x3), some (.int x4), some (.int x5), some (.int x6), none, none]) (st' := [.int x5]) (fun _ => rfl) ?_
        exact mEnds.rti (Option.some.inj hf) (fun _ => rfl)
      · rw [if_neg hc2] at hf
        refine t_cF (rfl : mfetch 163 152 = some (152, .if_icmp .eq 7, 3, 0, 0, 0)) (k_eq' hc2) ?_
        refine mEnds.stp 1 (pc' := 156) (l' := [some (.ref 10), some (.int x1), some (.int x2), some (.int x3), some (.int x4), some (.int x5), some (.int x6), none, none]) (st' := [.int x3]) (fun _ => rfl) ?_
        by_cases hc3 : x3 = 0
        · rw [if_pos hc3] at hf
          refine t_jF (rfl : mfetch 163 156 = some (156, .ifCond .ne 8, 3, 0, 0, 0)) (k_ne' hc3) ?_
          refine mEnds.stp 2 (pc' := 166) (l' := [some (.ref 10), some (.int x1), some (.int x2), some (.int x3), some (.int x4), some (.int x5), some (.int x6), none, none]) (st' := [.int x5]) (fun _ => rfl) ?_
          exact mEnds.rti (Option.some.inj hf) (fun _ => rfl)
        · rw [if_neg hc3] at hf
          refine t_jT (t := 164) (rfl : mfetch 163 156 = some (156, .ifCond .ne 8, 3, 0, 0, 0)) rfl (k_ne hc3) ?_
          refine mEnds.stp 1 (pc' := 166) (l' := [some (.ref 10), some (.int x1), some (.int x2), some (.int x3), some (.int x4), some (.int x5), some (.int x6), none, none]) (st' := [.int x4]) (fun _ => rfl) ?_
          exact mEnds.rti (Option.some.inj hf) (fun _ => rfl)
def M_spare (x1 : Int32) (x2 : Int32) (x3 : Int32) (s : sg) : Option (Int32 × sg) :=
  (M_in x1.toInt64 (0 : Int64) (60 : Int64) s).bind fun v1 =>
  if v1 = 0 then
    some ((-1), s)
  else
    (M_in x2.toInt64 (0 : Int64) (99 : Int64) s).bind fun v2 =>
    if v2 = 0 then
      some ((-1), s)
    else
      (M_in x3.toInt64 (0 : Int64) (1 : Int64) s).bind fun v3 =>
      if v3 = 0 then
        some ((-1), s)
      else
        M_spare_47 x1 x2 x3 FU (nI 1000000) (-4) (nI 0) s
set_option maxRecDepth 100000 in
theorem ok_M_spare {x1 : Int32} {x2 : Int32} {x3 : Int32} {s : sg} {rv : (Int32 × sg)} (hf : M_spare x1 x2 x3 s = some rv) : mEnds [] 5 163 (0, [some (.ref 10), some (.int x1), some (.int x2), some (.int x3), none, none, none, none, none], [], hp shM s, 0, 0) (some (.int rv.1), hp shM rv.2, 0, 0) := by
  unfold M_spare at hf
  refine mEnds.stp 4 (pc' := 6) (l' := [some (.ref 10), some (.int x1), some (.int x2), some (.int x3), none, none, none, none, none]) (st' := [.long (60 : Int64), .long (0 : Int64), .long x1.toInt64]) (fun _ => rfl) ?_
  obtain ⟨v1, hv1, hf⟩ := ob hf
  refine t_cs (as := [.long x1.toInt64, .long (0 : Int64), .long (60 : Int64)]) (st := []) (Or.inl rfl) (rfl : mfetch 163 6 = some (6, .invokestatic 49, 3, 111, 0, 0)) rfl rfl rfl ((ok_M_in hv1).deep 4) ?_
  by_cases hc1 : v1 = 0
  · rw [if_pos hc1] at hf
    refine t_jT (t := 34) (rfl : mfetch 163 9 = some (9, .ifCond .eq 25, 3, 0, 0, 0)) rfl (k_eq hc1) ?_
    refine mEnds.stp 1 (pc' := 35) (l' := [some (.ref 10), some (.int x1), some (.int x2), some (.int x3), none, none, none, none, none]) (st' := [.int (-1)]) (fun _ => rfl) ?_
    exact mEnds.rti (Option.some.inj hf) (fun _ => rfl)
  · rw [if_neg hc1] at hf
    refine t_jF (rfl : mfetch 163 9 = some (9, .ifCond .eq 25, 3, 0, 0, 0)) (k_eq' hc1) ?_
    refine mEnds.stp 4 (pc' := 18) (l' := [some (.ref 10), some (.int x1), some (.int x2), some (.int x3), none, none, none, none, none]) (st' := [.long (99 : Int64), .long (0 : Int64), .long x2.toInt64]) (fun _ => rfl) ?_
    obtain ⟨v2, hv2, hf⟩ := ob hf
    refine t_cs (as := [.long x2.toInt64, .long (0 : Int64), .long (99 : Int64)]) (st := []) (Or.inl rfl) (rfl : mfetch 163 18 = some (18, .invokestatic 49, 3, 111, 0, 0)) rfl rfl rfl ((ok_M_in hv2).deep 4) ?_
    by_cases hc2 : v2 = 0
    · rw [if_pos hc2] at hf
      refine t_jT (t := 34) (rfl : mfetch 163 21 = some (21, .ifCond .eq 13, 3, 0, 0, 0)) rfl (k_eq hc2) ?_
      refine mEnds.stp 1 (pc' := 35) (l' := [some (.ref 10), some (.int x1), some (.int x2), some (.int x3), none, none, none, none, none]) (st' := [.int (-1)]) (fun _ => rfl) ?_
      exact mEnds.rti (Option.some.inj hf) (fun _ => rfl)
    · rw [if_neg hc2] at hf
      refine t_jF (rfl : mfetch 163 21 = some (21, .ifCond .eq 13, 3, 0, 0, 0)) (k_eq' hc2) ?_
      refine mEnds.stp 4 (pc' := 28) (l' := [some (.ref 10), some (.int x1), some (.int x2), some (.int x3), none, none, none, none, none]) (st' := [.long (1 : Int64), .long (0 : Int64), .long x3.toInt64]) (fun _ => rfl) ?_
      obtain ⟨v3, hv3, hf⟩ := ob hf
      refine t_cs (as := [.long x3.toInt64, .long (0 : Int64), .long (1 : Int64)]) (st := []) (Or.inl rfl) (rfl : mfetch 163 28 = some (28, .invokestatic 49, 3, 111, 0, 0)) rfl rfl rfl ((ok_M_in hv3).deep 4) ?_
      by_cases hc3 : v3 = 0
      · rw [if_pos hc3] at hf
        refine t_jF (rfl : mfetch 163 31 = some (31, .ifCond .ne 5, 3, 0, 0, 0)) (k_ne' hc3) ?_
        refine mEnds.stp 1 (pc' := 35) (l' := [some (.ref 10), some (.int x1), some (.int x2), some (.int x3), none, none, none, none, none]) (st' := [.int (-1)]) (fun _ => rfl) ?_
        exact mEnds.rti (Option.some.inj hf) (fun _ => rfl)
      · rw [if_neg hc3] at hf
        refine t_jT (t := 36) (rfl : mfetch 163 31 = some (31, .ifCond .ne 5, 3, 0, 0, 0)) rfl (k_ne hc3) ?_
        refine mEnds.stp 6 (pc' := 47) (l' := [some (.ref 10), some (.int x1), some (.int x2), some (.int x3), some (.int (nI 1000000)), some (.int (-4)), some (.int (nI 0)), none, none]) (st' := []) (fun _ => rfl) ?_
        refine mEnds.cut (l := [some (.ref 10), some (.int x1), some (.int x2), some (.int x3), some (.int (nI 1000000)), some (.int (-4)), some (.int (nI 0)), none, none]) ⟨rfl, ⟨rfl, ⟨rfl, ⟨rfl, ⟨rfl, ⟨rfl, ⟨rfl, trivial⟩⟩⟩⟩⟩⟩⟩ ?_
        exact ok_M_spare_47 FU (nI 1000000) (-4) (nI 0) s _ hf
def M_lowest_41 (x5 : Int64) (y0 : Int64) (s : sg) : Option Int64 :=
  if x5 = 0 then none else
    some (y0 / x5)
set_option maxRecDepth 100000 in
theorem ok_M_lowest_41 {x5 : Int64} {y0 : Int64} {s : sg} {rv : Int64} (hf : M_lowest_41 x5 y0 s = some rv) : mEnds [] 0 164 (41, [none, none, none, none, none, some (.long x5), none, none, none, none, none], [.long y0], hp shM s, 0, 0) (some (.long rv), hp shM s, 0, 0) := by
  unfold M_lowest_41 at hf
  refine mEnds.stp 1 (pc' := 43) (l' := [none, none, none, none, none, some (.long x5), none, none, none, none, none]) (st' := [.long x5, .long y0]) (fun _ => rfl) ?_
  by_cases hc1 : x5 = 0
  · rw [if_pos hc1] at hf; cases hf
  · rw [if_neg hc1] at hf
    refine t_ld (rfl : mfetch 164 43 = some (43, .ldiv, 1, 0, 0, 0)) hc1 ?_
    cases hf; exact mEnds.rt (fun _ => rfl)
def M_lowest_6 (x0 : Int64) (x2 : Int64) (x4 : Int32) (s : sg) : Nat → Int64 → Int64 → Option Int64
  | 0, _, _ => none
  | fu + 1, x5, x7 =>
  if x7 = (0 : Int64) then
    if x4 = 0 then
      M_lowest_41 x5 x0 s
    else
      M_lowest_41 x5 x2 s
  else
    if x7 = 0 then none else
      M_lowest_6 x0 x2 x4 s fu x7 (x5 - x5 / x7 * x7)
set_option maxRecDepth 100000 in
theorem ok_M_lowest_6 {x0 : Int64} {x2 : Int64} {x4 : Int32} {s : sg} : ∀ (fu : Nat) (x5 : Int64) (x7 : Int64) (rv : Int64), M_lowest_6 x0 x2 x4 s fu x5 x7 = some rv → mEnds [] 0 164 (6, [some (.long x0), none, some (.long x2), none, some (.int x4), some (.long x5), none, some (.long x7), none, none, none], [], hp shM s, 0, 0) (some (.long rv), hp shM s, 0, 0)
  | 0, _, _, _, hf => by cases hf
  | fu + 1, x5, x7, rv, hf => by
    rw [M_lowest_6] at hf
    refine mEnds.stp 2 (pc' := 9) (l' := [some (.long x0), none, some (.long x2), none, some (.int x4), some (.long x5), none, some (.long x7), none, none, none]) (st' := [.long (0 : Int64), .long x7]) (fun _ => rfl) ?_
    refine mEnds.stp 1 (pc' := 10) (l' := [some (.long x0), none, some (.long x2), none, some (.int x4), some (.long x5), none, some (.long x7), none, none, none]) (st' := [.int (lg_cmp x7 (0 : Int64))]) (fun _ => rfl) ?_
    by_cases hc1 : x7 = (0 : Int64)
    · rw [if_pos hc1] at hf
      refine t_jT (t := 31) (rfl : mfetch 164 10 = some (10, .ifCond .eq 21, 3, 0, 0, 0)) rfl (l_eq hc1) ?_
      refine mEnds.stp 1 (pc' := 33) (l' := [some (.long x0), none, some (.long x2), none, some (.int x4), some (.long x5), none, some (.long x7), none, none, none]) (st' := [.int x4]) (fun _ => rfl) ?_
      by_cases hc2 : x4 = 0
      · rw [if_pos hc2] at hf
        refine t_jF (rfl : mfetch 164 33 = some (33, .ifCond .ne 7, 3, 0, 0, 0)) (k_ne' hc2) ?_
        refine mEnds.stp 2 (pc' := 41) (l' := [some (.long x0), none, some (.long x2), none, some (.int x4), some (.long x5), none, some (.long x7), none, none, none]) (st' := [.long x0]) (fun _ => rfl) ?_
        refine mEnds.cut (l := [none, none, none, none, none, some (.long x5), none, none, none, none, none]) ⟨rfl, trivial⟩ ?_
        exact ok_M_lowest_41 hf
      · rw [if_neg hc2] at hf
        refine t_jT (t := 40) (rfl : mfetch 164 33 = some (33, .ifCond .ne 7, 3, 0, 0, 0)) rfl (k_ne hc2) ?_
        refine mEnds.stp 1 (pc' := 41) (l' := [some (.long x0), none, some (.long x2), none, some (.int x4), some (.long x5), none, some (.long x7), none, none, none]) (st' := [.long x2]) (fun _ => rfl) ?_
        refine mEnds.cut (l := [none, none, none, none, none, some (.long x5), none, none, none, none, none]) ⟨rfl, trivial⟩ ?_
        exact ok_M_lowest_41 hf
    · rw [if_neg hc1] at hf
      refine t_jF (rfl : mfetch 164 10 = some (10, .ifCond .eq 21, 3, 0, 0, 0)) (l_eq' hc1) ?_
      refine mEnds.stp 2 (pc' := 17) (l' := [some (.long x0), none, some (.long x2), none, some (.int x4), some (.long x5), none, some (.long x7), none, none, none]) (st' := [.long x7, .long x5]) (fun _ => rfl) ?_
      by_cases hc3 : x7 = 0
      · rw [if_pos hc3] at hf; cases hf
      · rw [if_neg hc3] at hf
        refine t_lr (rfl : mfetch 164 17 = some (17, .lrem, 1, 0, 0, 0)) hc3 ?_
        refine mEnds.stp 6 (pc' := 6) (l' := [some (.long x0), none, some (.long x2), none, some (.int x4), some (.long x7), none, some (.long (x5 - x5 / x7 * x7)), none, some (.long (x5 - x5 / x7 * x7)), none]) (st' := []) (fun _ => rfl) ?_
        refine mEnds.cut (l := [some (.long x0), none, some (.long x2), none, some (.int x4), some (.long x7), none, some (.long (x5 - x5 / x7 * x7)), none, none, none]) ⟨rfl, ⟨rfl, ⟨rfl, ⟨rfl, ⟨rfl, trivial⟩⟩⟩⟩⟩ ?_
        exact ok_M_lowest_6 fu x7 (x5 - x5 / x7 * x7) _ hf
def M_lowest (x0 : Int64) (x2 : Int64) (x4 : Int32) (s : sg) : Option Int64 :=
  M_lowest_6 x0 x2 x4 s FU x0 x2
set_option maxRecDepth 100000 in
theorem ok_M_lowest {x0 : Int64} {x2 : Int64} {x4 : Int32} {s : sg} {rv : Int64} (hf : M_lowest x0 x2 x4 s = some rv) : mEnds [] 0 164 (0, [some (.long x0), none, some (.long x2), none, some (.int x4), none, none, none, none, none, none], [], hp shM s, 0, 0) (some (.long rv), hp shM s, 0, 0) := by
  unfold M_lowest at hf
  refine mEnds.stp 4 (pc' := 6) (l' := [some (.long x0), none, some (.long x2), none, some (.int x4), some (.long x0), none, some (.long x2), none, none, none]) (st' := []) (fun _ => rfl) ?_
  refine mEnds.cut (l := [some (.long x0), none, some (.long x2), none, some (.int x4), some (.long x0), none, some (.long x2), none, none, none]) ⟨rfl, ⟨rfl, ⟨rfl, ⟨rfl, ⟨rfl, trivial⟩⟩⟩⟩⟩ ?_
  exact ok_M_lowest_6 FU x0 x2 _ hf
