section Q31f
def M_swap_251 (k38 : Int32 → Int32 → Int32 → sg → Option (Int32 × sg)) (k53 : Int32 → Int32 → Int32 → sg → Option (Int32 × sg)) (x1 : Int32) (x2 : Int32) (x3 : Int32) (x5 : Int32) (x6 : Int32) (x7 : Int32) (y0 : Int32) (s : sg) : Option (Int32 × sg) :=
  if x7 < x3 then
    k53 x7 y0 (x6 + (nI 1)) s
  else
    k53 x3 y0 (x6 + (nI 1)) s
set_option maxRecDepth 100000 in
theorem ok_M_swap_251 {k38 : Int32 → Int32 → Int32 → sg → Option (Int32 × sg)} {k53 : Int32 → Int32 → Int32 → sg → Option (Int32 × sg)} {x1 : Int32} {x2 : Int32} {x3 : Int32} {x5 : Int32} {x6 : Int32} {x7 : Int32} {y0 : Int32} {s : sg} {rv : (Int32 × sg)} (hk38 : ∀ (x3 : Int32) (x4 : Int32) (x5 : Int32) (s : sg) (rv : (Int32 × sg)), k38 x3 x4 x5 s = some rv → mEnds [] 5 161 (38, [some (.ref 10), some (.int x1), some (.int x2), some (.int x3), some (.int x4), some (.int x5), none, none], [], hp shM s, 0, 0) (some (.int rv.1), hp shM rv.2, 0, 0)) (hk53 : ∀ (x3 : Int32) (x4 : Int32) (x6 : Int32) (s : sg) (rv : (Int32 × sg)), k53 x3 x4 x6 s = some rv → mEnds [] 5 161 (53, [some (.ref 10), some (.int x1), some (.int x2), some (.int x3), some (.int x4), some (.int x5), some (.int x6), none], [], hp shM s, 0, 0) (some (.int rv.1), hp shM rv.2, 0, 0)) (hf : M_swap_251 k38 k53 x1 x2 x3 x5 x6 x7 y0 s = some rv) : mEnds [] 5 161 (251, [some (.ref 10), some (.int x1), some (.int x2), some (.int x3), none, some (.int x5), some (.int x6), some (.int x7)], [.int y0], hp shM s, 0, 0) (some (.int rv.1), hp shM rv.2, 0, 0) := by
  unfold M_swap_251 at hf
  refine mEnds.stp 3 (pc' := 256) (l' := [some (.ref 10), some (.int x1), some (.int x2), some (.int x3), some (.int y0), some (.int x5), some (.int x6), some (.int x7)]) (st' := [.int x3, .int x7]) (fun _ => rfl) ?_
  by_cases hc1 : x7 < x3
  · rw [if_pos hc1] at hf
    refine t_cF (rfl : mfetch 161 256 = some (256, .if_icmp .ge 8, 3, 0, 0, 0)) (k_ge' hc1) ?_
    refine mEnds.stp 5 (pc' := 53) (l' := [some (.ref 10), some (.int x1), some (.int x2), some (.int x7), some (.int y0), some (.int x5), some (.int (x6 + (nI 1))), some (.int x7)]) (st' := []) (fun _ => rfl) ?_
    refine mEnds.cut (l := [some (.ref 10), some (.int x1), some (.int x2), some (.int x7), some (.int y0), some (.int x5), some (.int (x6 + (nI 1))), none]) ⟨rfl, ⟨rfl, ⟨rfl, ⟨rfl, ⟨rfl, ⟨rfl, ⟨rfl, trivial⟩⟩⟩⟩⟩⟩⟩ ?_
    exact hk53 x7 y0 (x6 + (nI 1)) s _ hf
  · rw [if_neg hc1] at hf
    refine t_cT (t := 264) (rfl : mfetch 161 256 = some (256, .if_icmp .ge 8, 3, 0, 0, 0)) rfl (k_ge hc1) ?_
    refine mEnds.stp 4 (pc' := 53) (l' := [some (.ref 10), some (.int x1), some (.int x2), some (.int x3), some (.int y0), some (.int x5), some (.int (x6 + (nI 1))), some (.int x7)]) (st' := []) (fun _ => rfl) ?_
    refine mEnds.cut (l := [some (.ref 10), some (.int x1), some (.int x2), some (.int x3), some (.int y0), some (.int x5), some (.int (x6 + (nI 1))), none]) ⟨rfl, ⟨rfl, ⟨rfl, ⟨rfl, ⟨rfl, ⟨rfl, ⟨rfl, trivial⟩⟩⟩⟩⟩⟩⟩ ?_
    exact hk53 x3 y0 (x6 + (nI 1)) s _ hf
def M_swap_221 (k38 : Int32 → Int32 → Int32 → sg → Option (Int32 × sg)) (k53 : Int32 → Int32 → Int32 → sg → Option (Int32 × sg)) (x1 : Int32) (x2 : Int32) (x3 : Int32) (x4 : Int32) (x5 : Int32) (x6 : Int32) (y0 : Int32) (y1 : Int32) (s : sg) : Option (Int32 × sg) :=
  (midx y1 312).bind fun j1 =>
  (some (up s 11 j1 y0)).bind fun s1 =>
  (M_hoursGo (nI 260) x1 s1).bind fun v1 =>
  if v1.1 < x3 then
    M_swap_251 k38 k53 x1 x2 x3 x5 x6 v1.1 (((nI 10) * x5) + x6) v1.2
  else
    M_swap_251 k38 k53 x1 x2 x3 x5 x6 v1.1 x4 v1.2
set_option maxRecDepth 100000 in
theorem ok_M_swap_221 {k38 : Int32 → Int32 → Int32 → sg → Option (Int32 × sg)} {k53 : Int32 → Int32 → Int32 → sg → Option (Int32 × sg)} {x1 : Int32} {x2 : Int32} {x3 : Int32} {x4 : Int32} {x5 : Int32} {x6 : Int32} {y0 : Int32} {y1 : Int32} {s : sg} {rv : (Int32 × sg)} (hk38 : ∀ (x3 : Int32) (x4 : Int32) (x5 : Int32) (s : sg) (rv : (Int32 × sg)), k38 x3 x4 x5 s = some rv → mEnds [] 5 161 (38, [some (.ref 10), some (.int x1), some (.int x2), some (.int x3), some (.int x4), some (.int x5), none, none], [], hp shM s, 0, 0) (some (.int rv.1), hp shM rv.2, 0, 0)) (hk53 : ∀ (x3 : Int32) (x4 : Int32) (x6 : Int32) (s : sg) (rv : (Int32 × sg)), k53 x3 x4 x6 s = some rv → mEnds [] 5 161 (53, [some (.ref 10), some (.int x1), some (.int x2), some (.int x3), some (.int x4), some (.int x5), some (.int x6), none], [], hp shM s, 0, 0) (some (.int rv.1), hp shM rv.2, 0, 0)) (hf : M_swap_221 k38 k53 x1 x2 x3 x4 x5 x6 y0 y1 s = some rv) : mEnds [] 5 161 (221, [some (.ref 10), some (.int x1), some (.int x2), some (.int x3), some (.int x4), some (.int x5), some (.int x6), none], [.int y0, .int y1, .ref 11], hp shM s, 0, 0) (some (.int rv.1), hp shM rv.2, 0, 0) := by
  unfold M_swap_221 at hf
  obtain ⟨j1, hj1, hf⟩ := ob hf
  obtain ⟨s1, hs1, hf⟩ := ob hf
  refine t_is (rfl : mfetch 161 221 = some (221, .iastore, 1, 0, 0, 0)) rfl rfl hj1 hs1 ?_
  refine mEnds.stp 3 (pc' := 227) (l' := [some (.ref 10), some (.int x1), some (.int x2), some (.int x3), some (.int x4), some (.int x5), some (.int x6), none]) (st' := [.int x1, .int (nI 260), .ref 10]) (fun _ => rfl) ?_
  obtain ⟨v1, hv1, hf⟩ := ob hf
  refine t_cv (as := [.int (nI 260), .int x1]) (st := []) (rfl : mfetch 161 227 = some (227, .invokevirtual 215, 3, 153, 0, 0)) rfl rfl rfl rfl rfl (ok_M_hoursGo hv1) ?_
  refine mEnds.stp 3 (pc' := 235) (l' := [some (.ref 10), some (.int x1), some (.int x2), some (.int x3), some (.int x4), some (.int x5), some (.int x6), some (.int v1.1)]) (st' := [.int x3, .int v1.1]) (fun _ => rfl) ?_
  by_cases hc1 : v1.1 < x3
  · rw [if_pos hc1] at hf
    refine t_cF (rfl : mfetch 161 235 = some (235, .if_icmp .ge 14, 3, 0, 0, 0)) (k_ge' hc1) ?_
    refine mEnds.stp 6 (pc' := 251) (l' := [some (.ref 10), some (.int x1), some (.int x2), some (.int x3), some (.int x4), some (.int x5), some (.int x6), some (.int v1.1)]) (st' := [.int (((nI 10) * x5) + x6)]) (fun _ => rfl) ?_
    refine mEnds.cut (l := [some (.ref 10), some (.int x1), some (.int x2), some (.int x3), none, some (.int x5), some (.int x6), some (.int v1.1)]) ⟨rfl, ⟨rfl, ⟨rfl, ⟨rfl, ⟨rfl, ⟨rfl, ⟨rfl, trivial⟩⟩⟩⟩⟩⟩⟩ ?_
    exact ok_M_swap_251 hk38 hk53 hf
  · rw [if_neg hc1] at hf
    refine t_cT (t := 249) (rfl : mfetch 161 235 = some (235, .if_icmp .ge 14, 3, 0, 0, 0)) rfl (k_ge hc1) ?_
    refine mEnds.stp 1 (pc' := 251) (l' := [some (.ref 10), some (.int x1), some (.int x2), some (.int x3), some (.int x4), some (.int x5), some (.int x6), some (.int v1.1)]) (st' := [.int x4]) (fun _ => rfl) ?_
    refine mEnds.cut (l := [some (.ref 10), some (.int x1), some (.int x2), some (.int x3), none, some (.int x5), some (.int x6), some (.int v1.1)]) ⟨rfl, ⟨rfl, ⟨rfl, ⟨rfl, ⟨rfl, ⟨rfl, ⟨rfl, trivial⟩⟩⟩⟩⟩⟩⟩ ?_
    exact ok_M_swap_251 hk38 hk53 hf
def M_swap_187 (k38 : Int32 → Int32 → Int32 → sg → Option (Int32 × sg)) (k53 : Int32 → Int32 → Int32 → sg → Option (Int32 × sg)) (x1 : Int32) (x2 : Int32) (x3 : Int32) (x4 : Int32) (x5 : Int32) (x6 : Int32) (y0 : Int32) (y1 : Int32) (s : sg) : Option (Int32 × sg) :=
  (midx y1 312).bind fun j1 =>
  (some (up s 11 j1 y0)).bind fun s1 =>
  (M_hasTongue x5 s1).bind fun v1 =>
  if v1 = 0 then
    M_swap_221 k38 k53 x1 x2 x3 x4 x5 x6 (nI 0) ((nI 290) + x6) s1
  else
    (midx ((nI 30) + x6) 312).bind fun j2 =>
    M_swap_221 k38 k53 x1 x2 x3 x4 x5 x6 (s1 11 j2) ((nI 290) + x6) s1
set_option maxRecDepth 100000 in
theorem ok_M_swap_187 {k38 : Int32 → Int32 → Int32 → sg → Option (Int32 × sg)} {k53 : Int32 → Int32 → Int32 → sg → Option (Int32 × sg)} {x1 : Int32} {x2 : Int32} {x3 : Int32} {x4 : Int32} {x5 : Int32} {x6 : Int32} {y0 : Int32} {y1 : Int32} {s : sg} {rv : (Int32 × sg)} (hk38 : ∀ (x3 : Int32) (x4 : Int32) (x5 : Int32) (s : sg) (rv : (Int32 × sg)), k38 x3 x4 x5 s = some rv → mEnds [] 5 161 (38, [some (.ref 10), some (.int x1), some (.int x2), some (.int x3), some (.int x4), some (.int x5), none, none], [], hp shM s, 0, 0) (some (.int rv.1), hp shM rv.2, 0, 0)) (hk53 : ∀ (x3 : Int32) (x4 : Int32) (x6 : Int32) (s : sg) (rv : (Int32 × sg)), k53 x3 x4 x6 s = some rv → mEnds [] 5 161 (53, [some (.ref 10), some (.int x1), some (.int x2), some (.int x3), some (.int x4), some (.int x5), some (.int x6), none], [], hp shM s, 0, 0) (some (.int rv.1), hp shM rv.2, 0, 0)) (hf : M_swap_187 k38 k53 x1 x2 x3 x4 x5 x6 y0 y1 s = some rv) : mEnds [] 5 161 (187, [some (.ref 10), some (.int x1), some (.int x2), some (.int x3), some (.int x4), some (.int x5), some (.int x6), none], [.int y0, .int y1, .ref 11], hp shM s, 0, 0) (some (.int rv.1), hp shM rv.2, 0, 0) := by
  unfold M_swap_187 at hf
  obtain ⟨j1, hj1, hf⟩ := ob hf
  obtain ⟨s1, hs1, hf⟩ := ob hf
  refine t_is (rfl : mfetch 161 187 = some (187, .iastore, 1, 0, 0, 0)) rfl rfl hj1 hs1 ?_
  refine mEnds.stp 1 (pc' := 189) (l' := [some (.ref 10), some (.int x1), some (.int x2), some (.int x3), some (.int x4), some (.int x5), some (.int x6), none]) (st' := [.ref 10]) (fun _ => rfl) ?_
  refine t_gr (rfl : mfetch 161 189 = some (189, .getfield 7, 3, 5, 0, 0)) rfl rfl ?_
  refine mEnds.stp 5 (pc' := 201) (l' := [some (.ref 10), some (.int x1), some (.int x2), some (.int x3), some (.int x4), some (.int x5), some (.int x6), none]) (st' := [.int x5, .ref 10, .int ((nI 290) + x6), .ref 11]) (fun _ => rfl) ?_
  obtain ⟨v1, hv1, hf⟩ := ob hf
  refine t_cv (as := [.int x5]) (st := [.int ((nI 290) + x6), .ref 11]) (rfl : mfetch 161 201 = some (201, .invokevirtual 173, 3, 128, 0, 0)) rfl rfl rfl rfl rfl ((ok_M_hasTongue hv1).deep 4) ?_
  by_cases hc1 : v1 = 0
  · rw [if_pos hc1] at hf
    refine t_jT (t := 220) (rfl : mfetch 161 204 = some (204, .ifCond .eq 16, 3, 0, 0, 0)) rfl (k_eq hc1) ?_
    refine mEnds.stp 1 (pc' := 221) (l' := [some (.ref 10), some (.int x1), some (.int x2), some (.int x3), some (.int x4), some (.int x5), some (.int x6), none]) (st' := [.int (nI 0), .int ((nI 290) + x6), .ref 11]) (fun _ => rfl) ?_
    refine mEnds.cut (l := [some (.ref 10), some (.int x1), some (.int x2), some (.int x3), some (.int x4), some (.int x5), some (.int x6), none]) ⟨rfl, ⟨rfl, ⟨rfl, ⟨rfl, ⟨rfl, ⟨rfl, ⟨rfl, trivial⟩⟩⟩⟩⟩⟩⟩ ?_
    exact ok_M_swap_221 hk38 hk53 hf
  · rw [if_neg hc1] at hf
    refine t_jF (rfl : mfetch 161 204 = some (204, .ifCond .eq 16, 3, 0, 0, 0)) (k_eq' hc1) ?_
    refine mEnds.stp 1 (pc' := 208) (l' := [some (.ref 10), some (.int x1), some (.int x2), some (.int x3), some (.int x4), some (.int x5), some (.int x6), none]) (st' := [.ref 10, .int ((nI 290) + x6), .ref 11]) (fun _ => rfl) ?_
    refine t_gr (rfl : mfetch 161 208 = some (208, .getfield 7, 3, 5, 0, 0)) rfl rfl ?_
    refine mEnds.stp 3 (pc' := 216) (l' := [some (.ref 10), some (.int x1), some (.int x2), some (.int x3), some (.int x4), some (.int x5), some (.int x6), none]) (st' := [.int ((nI 30) + x6), .ref 11, .int ((nI 290) + x6), .ref 11]) (fun _ => rfl) ?_
    obtain ⟨j2, hj2, hf⟩ := ob hf
    refine t_ia (rfl : mfetch 161 216 = some (216, .iaload, 1, 0, 0, 0)) rfl rfl hj2 ?_
    refine mEnds.stp 1 (pc' := 221) (l' := [some (.ref 10), some (.int x1), some (.int x2), some (.int x3), some (.int x4), some (.int x5), some (.int x6), none]) (st' := [.int (s1 11 j2), .int ((nI 290) + x6), .ref 11]) (fun _ => rfl) ?_
    refine mEnds.cut (l := [some (.ref 10), some (.int x1), some (.int x2), some (.int x3), some (.int x4), some (.int x5), some (.int x6), none]) ⟨rfl, ⟨rfl, ⟨rfl, ⟨rfl, ⟨rfl, ⟨rfl, ⟨rfl, trivial⟩⟩⟩⟩⟩⟩⟩ ?_
    exact ok_M_swap_221 hk38 hk53 hf
def M_swap_53 (k38 : Int32 → Int32 → Int32 → sg → Option (Int32 × sg)) (x1 : Int32) (x2 : Int32) (x5 : Int32) : Nat → Int32 → Int32 → Int32 → sg → Option (Int32 × sg)
  | 0, _, _, _, _ => none
  | fu + 1, x3, x4, x6, s =>
  if x6 < s 10 1 then
    (M_copies (nI 0) (nI 260) s).bind fun s1 =>
    (midx ((nI 18) + x6) 312).bind fun j1 =>
    (midx ((nI 278) + x5) 312).bind fun j2 =>
    (some (up s1 11 j2 (s1 11 j1))).bind fun s2 =>
    (midx ((nI 18) + x5) 312).bind fun j3 =>
    (midx ((nI 278) + x6) 312).bind fun j4 =>
    (some (up s2 11 j4 (s2 11 j3))).bind fun s3 =>
    (midx ((nI 24) + x6) 312).bind fun j5 =>
    (midx ((nI 284) + x5) 312).bind fun j6 =>
    (some (up s3 11 j6 (s3 11 j5))).bind fun s4 =>
    (midx ((nI 24) + x5) 312).bind fun j7 =>
    (midx ((nI 284) + x6) 312).bind fun j8 =>
    (some (up s4 11 j8 (s4 11 j7))).bind fun s5 =>
    (M_hasTongue x6 s5).bind fun v2 =>
    if v2 = 0 then
      M_swap_187 k38 (M_swap_53 k38 x1 x2 x5 fu) x1 x2 x3 x4 x5 x6 (nI 0) ((nI 290) + x5) s5
    else
      (midx ((nI 30) + x5) 312).bind fun j9 =>
      M_swap_187 k38 (M_swap_53 k38 x1 x2 x5 fu) x1 x2 x3 x4 x5 x6 (s5 11 j9) ((nI 290) + x5) s5
  else
    k38 x3 x4 (x5 + (nI 1)) s
set_option maxRecDepth 100000 in
theorem ok_M_swap_53 {k38 : Int32 → Int32 → Int32 → sg → Option (Int32 × sg)} {x1 : Int32} {x2 : Int32} {x5 : Int32} (hk38 : ∀ (x3 : Int32) (x4 : Int32) (x5 : Int32) (s : sg) (rv : (Int32 × sg)), k38 x3 x4 x5 s = some rv → mEnds [] 5 161 (38, [some (.ref 10), some (.int x1), some (.int x2), some (.int x3), some (.int x4), some (.int x5), none, none], [], hp shM s, 0, 0) (some (.int rv.1), hp shM rv.2, 0, 0)) : ∀ (fu : Nat) (x3 : Int32) (x4 : Int32) (x6 : Int32) (s : sg) (rv : (Int32 × sg)), M_swap_53 k38 x1 x2 x5 fu x3 x4 x6 s = some rv → mEnds [] 5 161 (53, [some (.ref 10), some (.int x1), some (.int x2), some (.int x3), some (.int x4), some (.int x5), some (.int x6), none], [], hp shM s, 0, 0) (some (.int rv.1), hp shM rv.2, 0, 0)
  | 0, _, _, _, _, _, hf => by cases hf
  | fu + 1, x3, x4, x6, s, rv, hf => by
    rw [M_swap_53] at hf
    refine mEnds.stp 2 (pc' := 56) (l' := [some (.ref 10), some (.int x1), some (.int x2), some (.int x3), some (.int x4), some (.int x5), some (.int x6), none]) (st' := [.ref 10, .int x6]) (fun _ => rfl) ?_
    refine t_gi (rfl : mfetch 161 56 = some (56, .getfield 139, 3, 5, 1, 0)) rfl rfl ?_
    by_cases hc1 : x6 < s 10 1
    · rw [if_pos hc1] at hf
      refine t_cF (rfl : mfetch 161 59 = some (59, .if_icmp .ge 213, 3, 0, 0, 0)) (k_ge' hc1) ?_
      refine mEnds.stp 3 (pc' := 67) (l' := [some (.ref 10), some (.int x1), some (.int x2), some (.int x3), some (.int x4), some (.int x5), some (.int x6), none]) (st' := [.int (nI 260), .int (nI 0), .ref 10]) (fun _ => rfl) ?_
      obtain ⟨s1, hs1, hf⟩ := ob hf
      refine t_cv (as := [.int (nI 0), .int (nI 260)]) (st := []) (rfl : mfetch 161 67 = some (67, .invokevirtual 201, 3, 152, 0, 0)) rfl rfl rfl rfl rfl ((ok_M_copies hs1).deep 4) ?_
      refine mEnds.stp 1 (pc' := 71) (l' := [some (.ref 10), some (.int x1), some (.int x2), some (.int x3), some (.int x4), some (.int x5), some (.int x6), none]) (st' := [.ref 10]) (fun _ => rfl) ?_
      refine t_gr (rfl : mfetch 161 71 = some (71, .getfield 7, 3, 5, 0, 0)) rfl rfl ?_
      refine mEnds.stp 4 (pc' := 81) (l' := [some (.ref 10), some (.int x1), some (.int x2), some (.int x3), some (.int x4), some (.int x5), some (.int x6), none]) (st' := [.ref 10, .int ((nI 278) + x5), .ref 11]) (fun _ => rfl) ?_
      refine t_gr (rfl : mfetch 161 81 = some (81, .getfield 7, 3, 5, 0, 0)) rfl rfl ?_
      refine mEnds.stp 3 (pc' := 89) (l' := [some (.ref 10), some (.int x1), some (.int x2), some (.int x3), some (.int x4), some (.int x5), some (.int x6), none]) (st' := [.int ((nI 18) + x6), .ref 11, .int ((nI 278) + x5), .ref 11]) (fun _ => rfl) ?_
      obtain ⟨j1, hj1, hf⟩ := ob hf
      refine t_ia (rfl : mfetch 161 89 = some (89, .iaload, 1, 0, 0, 0)) rfl rfl hj1 ?_
      obtain ⟨j2, hj2, hf⟩ := ob hf
      obtain ⟨s2, hs2, hf⟩ := ob hf
      refine t_is (rfl : mfetch 161 90 = some (90, .iastore, 1, 0, 0, 0)) rfl rfl hj2 hs2 ?_
      refine mEnds.stp 1 (pc' := 92) (l' := [some (.ref 10), some (.int x1), some (.int x2), some (.int x3), some (.int x4), some (.int x5), some (.int x6), none]) (st' := [.ref 10]) (fun _ => rfl) ?_
      refine t_gr (rfl : mfetch 161 92 = some (92, .getfield 7, 3, 5, 0, 0)) rfl rfl ?_
      refine mEnds.stp 4 (pc' := 102) (l' := [some (.ref 10), some (.int x1), some (.int x2), some (.int x3), some (.int x4), some (.int x5), some (.int x6), none]) (st' := [.ref 10, .int ((nI 278) + x6), .ref 11]) (fun _ => rfl) ?_
      refine t_gr (rfl : mfetch 161 102 = some (102, .getfield 7, 3, 5, 0, 0)) rfl rfl ?_
      refine mEnds.stp 3 (pc' := 110) (l' := [some (.ref 10), some (.int x1), some (.int x2), some (.int x3), some (.int x4), some (.int x5), some (.int x6), none]) (st' := [.int ((nI 18) + x5), .ref 11, .int ((nI 278) + x6), .ref 11]) (fun _ => rfl) ?_
      obtain ⟨j3, hj3, hf⟩ := ob hf
      refine t_ia (rfl : mfetch 161 110 = some (110, .iaload, 1, 0, 0, 0)) rfl rfl hj3 ?_
      obtain ⟨j4, hj4, hf⟩ := ob hf
      obtain ⟨s3, hs3, hf⟩ := ob hf
      refine t_is (rfl : mfetch 161 111 = some (111, .iastore, 1, 0, 0, 0)) rfl rfl hj4 hs3 ?_
      refine mEnds.stp 1 (pc' := 113) (l' := [some (.ref 10), some (.int x1), some (.int x2), some (.int x3), some (.int x4), some (.int x5), some (.int x6), none]) (st' := [.ref 10]) (fun _ => rfl) ?_
      refine t_gr (rfl : mfetch 161 113 = some (113, .getfield 7, 3, 5, 0, 0)) rfl rfl ?_
      refine mEnds.stp 4 (pc' := 123) (l' := [some (.ref 10), some (.int x1), some (.int x2), some (.int x3), some (.int x4), some (.int x5), some (.int x6), none]) (st' := [.ref 10, .int ((nI 284) + x5), .ref 11]) (fun _ => rfl) ?_
      refine t_gr (rfl : mfetch 161 123 = some (123, .getfield 7, 3, 5, 0, 0)) rfl rfl ?_
      refine mEnds.stp 3 (pc' := 131) (l' := [some (.ref 10), some (.int x1), some (.int x2), some (.int x3), some (.int x4), some (.int x5), some (.int x6), none]) (st' := [.int ((nI 24) + x6), .ref 11, .int ((nI 284) + x5), .ref 11]) (fun _ => rfl) ?_
      obtain ⟨j5, hj5, hf⟩ := ob hf
      refine t_ia (rfl : mfetch 161 131 = some (131, .iaload, 1, 0, 0, 0)) rfl rfl hj5 ?_
      obtain ⟨j6, hj6, hf⟩ := ob hf
      obtain ⟨s4, hs4, hf⟩ := ob hf
      refine t_is (rfl : mfetch 161 132 = some (132, .iastore, 1, 0, 0, 0)) rfl rfl hj6 hs4 ?_
      refine mEnds.stp 1 (pc' := 134) (l' := [some (.ref 10), some (.int x1), some (.int x2), some (.int x3), some (.int x4), some (.int x5), some (.int x6), none]) (st' := [.ref 10]) (fun _ => rfl) ?_
      refine t_gr (rfl : mfetch 161 134 = some (134, .getfield 7, 3, 5, 0, 0)) rfl rfl ?_
      refine mEnds.stp 4 (pc' := 144) (l' := [some (.ref 10), some (.int x1), some (.int x2), some (.int x3), some (.int x4), some (.int x5), some (.int x6), none]) (st' := [.ref 10, .int ((nI 284) + x6), .ref 11]) (fun _ => rfl) ?_
      refine t_gr (rfl : mfetch 161 144 = some (144, .getfield 7, 3, 5, 0, 0)) rfl rfl ?_
      refine mEnds.stp 3 (pc' := 152) (l' := [some (.ref 10), some (.int x1), some (.int x2), some (.int x3), some (.int x4), some (.int x5), some (.int x6), none]) (st' := [.int ((nI 24) + x5), .ref 11, .int ((nI 284) + x6), .ref 11]) (fun _ => rfl) ?_
      obtain ⟨j7, hj7, hf⟩ := ob hf
      refine t_ia (rfl : mfetch 161 152 = some (152, .iaload, 1, 0, 0, 0)) rfl rfl hj7 ?_
      obtain ⟨j8, hj8, hf⟩ := ob hf
      obtain ⟨s5, hs5, hf⟩ := ob hf
      refine t_is (rfl : mfetch 161 153 = some (153, .iastore, 1, 0, 0, 0)) rfl rfl hj8 hs5 ?_
      refine mEnds.stp 1 (pc' := 155) (l' := [some (.ref 10), some (.int x1), some (.int x2), some (.int x3), some (.int x4), some (.int x5), some (.int x6), none]) (st' := [.ref 10]) (fun _ => rfl) ?_
      refine t_gr (rfl : mfetch 161 155 = some (155, .getfield 7, 3, 5, 0, 0)) rfl rfl ?_
      refine mEnds.stp 5 (pc' := 167) (l' := [some (.ref 10), some (.int x1), some (.int x2), some (.int x3), some (.int x4), some (.int x5), some (.int x6), none]) (st' := [.int x6, .ref 10, .int ((nI 290) + x5), .ref 11]) (fun _ => rfl) ?_
      obtain ⟨v2, hv2, hf⟩ := ob hf
      refine t_cv (as := [.int x6]) (st := [.int ((nI 290) + x5), .ref 11]) (rfl : mfetch 161 167 = some (167, .invokevirtual 173, 3, 128, 0, 0)) rfl rfl rfl rfl rfl ((ok_M_hasTongue hv2).deep 4) ?_
      by_cases hc2 : v2 = 0
      · rw [if_pos hc2] at hf
        refine t_jT (t := 186) (rfl : mfetch 161 170 = some (170, .ifCond .eq 16, 3, 0, 0, 0)) rfl (k_eq hc2) ?_
        refine mEnds.stp 1 (pc' := 187) (l' := [some (.ref 10), some (.int x1), some (.int x2), some (.int x3), some (.int x4), some (.int x5), some (.int x6), none]) (st' := [.int (nI 0), .int ((nI 290) + x5), .ref 11]) (fun _ => rfl) ?_
        refine mEnds.cut (l := [some (.ref 10), some (.int x1), some (.int x2), some (.int x3), some (.int x4), some (.int x5), some (.int x6), none]) ⟨rfl, ⟨rfl, ⟨rfl, ⟨rfl, ⟨rfl, ⟨rfl, ⟨rfl, trivial⟩⟩⟩⟩⟩⟩⟩ ?_
        exact ok_M_swap_187 hk38 (ok_M_swap_53 hk38 fu) hf
      · rw [if_neg hc2] at hf
        refine t_jF (rfl : mfetch 161 170 = some (170, .ifCond .eq 16, 3, 0, 0, 0)) (k_eq' hc2) ?_
        refine mEnds.stp 1 (pc' := 174) (l' := [some (.ref 10), some (.int x1), some (.int x2), some (.int x3), some (.int x4), some (.int x5), some (.int x6), none]) (st' := [.ref 10, .int ((nI 290) + x5), .ref 11]) (fun _ => rfl) ?_
        refine t_gr (rfl : mfetch 161 174 = some (174, .getfield 7, 3, 5, 0, 0)) rfl rfl ?_
        refine mEnds.stp 3 (pc' := 182) (l' := [some (.ref 10), some (.int x1), some (.int x2), some (.int x3), some (.int x4), some (.int x5), some (.int x6), none]) (st' := [.int ((nI 30) + x5), .ref 11, .int ((nI 290) + x5), .ref 11]) (fun _ => rfl) ?_
        obtain ⟨j9, hj9, hf⟩ := ob hf
        refine t_ia (rfl : mfetch 161 182 = some (182, .iaload, 1, 0, 0, 0)) rfl rfl hj9 ?_
        refine mEnds.stp 1 (pc' := 187) (l' := [some (.ref 10), some (.int x1), some (.int x2), some (.int x3), some (.int x4), some (.int x5), some (.int x6), none]) (st' := [.int (s5 11 j9), .int ((nI 290) + x5), .ref 11]) (fun _ => rfl) ?_
        refine mEnds.cut (l := [some (.ref 10), some (.int x1), some (.int x2), some (.int x3), some (.int x4), some (.int x5), some (.int x6), none]) ⟨rfl, ⟨rfl, ⟨rfl, ⟨rfl, ⟨rfl, ⟨rfl, ⟨rfl, trivial⟩⟩⟩⟩⟩⟩⟩ ?_
        exact ok_M_swap_187 hk38 (ok_M_swap_53 hk38 fu) hf
    · rw [if_neg hc1] at hf
      refine t_cT (t := 272) (rfl : mfetch 161 59 = some (59, .if_icmp .ge 213, 3, 0, 0, 0)) rfl (k_ge hc1) ?_
      refine mEnds.stp 2 (pc' := 38) (l' := [some (.ref 10), some (.int x1), some (.int x2), some (.int x3), some (.int x4), some (.int (x5 + (nI 1))), some (.int x6), none]) (st' := []) (fun _ => rfl) ?_
      refine mEnds.cut (l := [some (.ref 10), some (.int x1), some (.int x2), some (.int x3), some (.int x4), some (.int (x5 + (nI 1))), none, none]) ⟨rfl, ⟨rfl, ⟨rfl, ⟨rfl, ⟨rfl, ⟨rfl, trivial⟩⟩⟩⟩⟩⟩ ?_
      exact hk38 x3 x4 (x5 + (nI 1)) s _ hf
def M_swap_38 (x1 : Int32) (x2 : Int32) : Nat → Int32 → Int32 → Int32 → sg → Option (Int32 × sg)
  | 0, _, _, _, _ => none
  | fu + 1, x3, x4, x5, s =>
  if x5 < s 10 1 then
    M_swap_53 (M_swap_38 x1 x2 fu) x1 x2 x5 FU x3 x4 (x5 + (nI 1)) s
  else
    if x4 = (-4) then
      some (x4, s)
    else
      if x2 = 0 then
        some (x4, s)
      else
        some (x3, s)
set_option maxRecDepth 100000 in
theorem ok_M_swap_38 {x1 : Int32} {x2 : Int32} : ∀ (fu : Nat) (x3 : Int32) (x4 : Int32) (x5 : Int32) (s : sg) (rv : (Int32 × sg)), M_swap_38 x1 x2 fu x3 x4 x5 s = some rv → mEnds [] 5 161 (38, [some (.ref 10), some (.int x1), some (.int x2), some (.int x3), some (.int x4), some (.int x5), none, none], [], hp shM s, 0, 0) (some (.int rv.1), hp shM rv.2, 0, 0)
  | 0, _, _, _, _, _, hf => by cases hf
  | fu + 1, x3, x4, x5, s, rv, hf => by
    rw [M_swap_38] at hf
    refine mEnds.stp 2 (pc' := 41) (l' := [some (.ref 10), some (.int x1), some (.int x2), some (.int x3), some (.int x4), some (.int x5), none, none]) (st' := [.ref 10, .int x5]) (fun _ => rfl) ?_
    refine t_gi (rfl : mfetch 161 41 = some (41, .getfield 139, 3, 5, 1, 0)) rfl rfl ?_
    by_cases hc1 : x5 < s 10 1
    · rw [if_pos hc1] at hf
      refine t_cF (rfl : mfetch 161 44 = some (44, .if_icmp .ge 234, 3, 0, 0, 0)) (k_ge' hc1) ?_
      refine mEnds.stp 4 (pc' := 53) (l' := [some (.ref 10), some (.int x1), some (.int x2), some (.int x3), some (.int x4), some (.int x5), some (.int (x5 + (nI 1))), none]) (st' := []) (fun _ => rfl) ?_
      refine mEnds.cut (l := [some (.ref 10), some (.int x1), some (.int x2), some (.int x3), some (.int x4), some (.int x5), some (.int (x5 + (nI 1))), none]) ⟨rfl, ⟨rfl, ⟨rfl, ⟨rfl, ⟨rfl, ⟨rfl, ⟨rfl, trivial⟩⟩⟩⟩⟩⟩⟩ ?_
      exact ok_M_swap_53 (ok_M_swap_38 fu) FU x3 x4 (x5 + (nI 1)) s _ hf
    · rw [if_neg hc1] at hf
      refine t_cT (t := 278) (rfl : mfetch 161 44 = some (44, .if_icmp .ge 234, 3, 0, 0, 0)) rfl (k_ge hc1) ?_
      refine mEnds.stp 2 (pc' := 282) (l' := [some (.ref 10), some (.int x1), some (.int x2), some (.int x3), some (.int x4), some (.int x5), none, none]) (st' := [.int (-4), .int x4]) (fun _ => rfl) ?_
      by_cases hc2 : x4 = (-4)
      · rw [if_pos hc2] at hf
        refine t_cT (t := 289) (rfl : mfetch 161 282 = some (282, .if_icmp .eq 7, 3, 0, 0, 0)) rfl (k_eq hc2) ?_
        refine mEnds.stp 2 (pc' := 295) (l' := [some (.ref 10), some (.int x1), some (.int x2), some (.int x3), some (.int x4), some (.int x5), none, none]) (st' := [.int x4]) (fun _ => rfl) ?_
        exact mEnds.rti (Option.some.inj hf) (fun _ => rfl)
      · rw [if_neg hc2] at hf
        refine t_cF (rfl : mfetch 161 282 = some (282, .if_icmp .eq 7, 3, 0, 0, 0)) (k_eq' hc2) ?_
        refine mEnds.stp 1 (pc' := 286) (l' := [some (.ref 10), some (.int x1), some (.int x2), some (.int x3), some (.int x4), some (.int x5), none, none]) (st' := [.int x2]) (fun _ => rfl) ?_
        by_cases hc3 : x2 = 0
        · rw [if_pos hc3] at hf
          refine t_jF (rfl : mfetch 161 286 = some (286, .ifCond .ne 8, 3, 0, 0, 0)) (k_ne' hc3) ?_
          refine mEnds.stp 2 (pc' := 295) (l' := [some (.ref 10), some (.int x1), some (.int x2), some (.int x3), some (.int x4), some (.int x5), none, none]) (st' := [.int x4]) (fun _ => rfl) ?_
          exact mEnds.rti (Option.some.inj hf) (fun _ => rfl)
        · rw [if_neg hc3] at hf
          refine t_jT (t := 294) (rfl : mfetch 161 286 = some (286, .ifCond .ne 8, 3, 0, 0, 0)) rfl (k_ne hc3) ?_
          refine mEnds.stp 1 (pc' := 295) (l' := [some (.ref 10), some (.int x1), some (.int x2), some (.int x3), some (.int x4), some (.int x5), none, none]) (st' := [.int x3]) (fun _ => rfl) ?_
          exact mEnds.rti (Option.some.inj hf) (fun _ => rfl)
def M_swap (x1 : Int32) (x2 : Int32) (s : sg) : Option (Int32 × sg) :=
  (M_in x1.toInt64 (0 : Int64) (60 : Int64) s).bind fun v1 =>
  if v1 = 0 then
    some ((-1), s)
  else
    (M_in x2.toInt64 (0 : Int64) (1 : Int64) s).bind fun v2 =>
    if v2 = 0 then
      some ((-1), s)
    else
      (M_hoursGo (nI 0) x1 s).bind fun v3 =>
      M_swap_38 x1 x2 FU v3.1 (-4) (nI 0) v3.2
set_option maxRecDepth 100000 in
theorem ok_M_swap {x1 : Int32} {x2 : Int32} {s : sg} {rv : (Int32 × sg)} (hf : M_swap x1 x2 s = some rv) : mEnds [] 5 161 (0, [some (.ref 10), some (.int x1), some (.int x2), none, none, none, none, none], [], hp shM s, 0, 0) (some (.int rv.1), hp shM rv.2, 0, 0) := by
  unfold M_swap at hf
  refine mEnds.stp 4 (pc' := 6) (l' := [some (.ref 10), some (.int x1), some (.int x2), none, none, none, none, none]) (st' := [.long (60 : Int64), .long (0 : Int64), .long x1.toInt64]) (fun _ => rfl) ?_
  obtain ⟨v1, hv1, hf⟩ := ob hf
  refine t_cs (as := [.long x1.toInt64, .long (0 : Int64), .long (60 : Int64)]) (st := []) (Or.inl rfl) (rfl : mfetch 161 6 = some (6, .invokestatic 49, 3, 111, 0, 0)) rfl rfl rfl ((ok_M_in hv1).deep 4) ?_
  by_cases hc1 : v1 = 0
  · rw [if_pos hc1] at hf
    refine t_jT (t := 22) (rfl : mfetch 161 9 = some (9, .ifCond .eq 13, 3, 0, 0, 0)) rfl (k_eq hc1) ?_
    refine mEnds.stp 1 (pc' := 23) (l' := [some (.ref 10), some (.int x1), some (.int x2), none, none, none, none, none]) (st' := [.int (-1)]) (fun _ => rfl) ?_
    exact mEnds.rti (Option.some.inj hf) (fun _ => rfl)
  · rw [if_neg hc1] at hf
    refine t_jF (rfl : mfetch 161 9 = some (9, .ifCond .eq 13, 3, 0, 0, 0)) (k_eq' hc1) ?_
    refine mEnds.stp 4 (pc' := 16) (l' := [some (.ref 10), some (.int x1), some (.int x2), none, none, none, none, none]) (st' := [.long (1 : Int64), .long (0 : Int64), .long x2.toInt64]) (fun _ => rfl) ?_
    obtain ⟨v2, hv2, hf⟩ := ob hf
    refine t_cs (as := [.long x2.toInt64, .long (0 : Int64), .long (1 : Int64)]) (st := []) (Or.inl rfl) (rfl : mfetch 161 16 = some (16, .invokestatic 49, 3, 111, 0, 0)) rfl rfl rfl ((ok_M_in hv2).deep 4) ?_
    by_cases hc2 : v2 = 0
    · rw [if_pos hc2] at hf
      refine t_jF (rfl : mfetch 161 19 = some (19, .ifCond .ne 5, 3, 0, 0, 0)) (k_ne' hc2) ?_
      refine mEnds.stp 1 (pc' := 23) (l' := [some (.ref 10), some (.int x1), some (.int x2), none, none, none, none, none]) (st' := [.int (-1)]) (fun _ => rfl) ?_
      exact mEnds.rti (Option.some.inj hf) (fun _ => rfl)
    · rw [if_neg hc2] at hf
      refine t_jT (t := 24) (rfl : mfetch 161 19 = some (19, .ifCond .ne 5, 3, 0, 0, 0)) rfl (k_ne hc2) ?_
      refine mEnds.stp 3 (pc' := 27) (l' := [some (.ref 10), some (.int x1), some (.int x2), none, none, none, none, none]) (st' := [.int x1, .int (nI 0), .ref 10]) (fun _ => rfl) ?_
      obtain ⟨v3, hv3, hf⟩ := ob hf
      refine t_cv (as := [.int (nI 0), .int x1]) (st := []) (rfl : mfetch 161 27 = some (27, .invokevirtual 215, 3, 153, 0, 0)) rfl rfl rfl rfl rfl (ok_M_hoursGo hv3) ?_
      refine mEnds.stp 5 (pc' := 38) (l' := [some (.ref 10), some (.int x1), some (.int x2), some (.int v3.1), some (.int (-4)), some (.int (nI 0)), none, none]) (st' := []) (fun _ => rfl) ?_
      refine mEnds.cut (l := [some (.ref 10), some (.int x1), some (.int x2), some (.int v3.1), some (.int (-4)), some (.int (nI 0)), none, none]) ⟨rfl, ⟨rfl, ⟨rfl, ⟨rfl, ⟨rfl, ⟨rfl, trivial⟩⟩⟩⟩⟩⟩ ?_
      exact ok_M_swap_38 FU v3.1 (-4) (nI 0) v3.2 _ hf
def M_seal_93 (k38 : Int32 → Int32 → Int32 → sg → Option (Int32 × sg)) (x1 : Int32) (x2 : Int32) (x3 : Int32) (x5 : Int32) (x6 : Int32) (y0 : Int32) (s : sg) : Option (Int32 × sg) :=
  if x6 < x3 then
    k38 x6 y0 (x5 + (nI 1)) s
  else
    k38 x3 y0 (x5 + (nI 1)) s
set_option maxRecDepth 100000 in
theorem ok_M_seal_93 {k38 : Int32 → Int32 → Int32 → sg → Option (Int32 × sg)} {x1 : Int32} {x2 : Int32} {x3 : Int32} {x5 : Int32} {x6 : Int32} {y0 : Int32} {s : sg} {rv : (Int32 × sg)} (hk38 : ∀ (x3 : Int32) (x4 : Int32) (x5 : Int32) (s : sg) (rv : (Int32 × sg)), k38 x3 x4 x5 s = some rv → mEnds [] 5 162 (38, [some (.ref 10), some (.int x1), some (.int x2), some (.int x3), some (.int x4), some (.int x5), none], [], hp shM s, 0, 0) (some (.int rv.1), hp shM rv.2, 0, 0)) (hf : M_seal_93 k38 x1 x2 x3 x5 x6 y0 s = some rv) : mEnds [] 5 162 (93, [some (.ref 10), some (.int x1), some (.int x2), some (.int x3), none, some (.int x5), some (.int x6)], [.int y0], hp shM s, 0, 0) (some (.int rv.1), hp shM rv.2, 0, 0) := by
  unfold M_seal_93 at hf
  refine mEnds.stp 3 (pc' := 98) (l' := [some (.ref 10), some (.int x1), some (.int x2), some (.int x3), some (.int y0), some (.int x5), some (.int x6)]) (st' := [.int x3, .int x6]) (fun _ => rfl) ?_
  by_cases hc1 : x6 < x3
  · rw [if_pos hc1] at hf
    refine t_cF (rfl : mfetch 162 98 = some (98, .if_icmp .ge 8, 3, 0, 0, 0)) (k_ge' hc1) ?_
    refine mEnds.stp 5 (pc' := 38) (l' := [some (.ref 10), some (.int x1), some (.int x2), some (.int x6), some (.int y0), some (.int (x5 + (nI 1))), some (.int x6)]) (st' := []) (fun _ => rfl) ?_
    refine mEnds.cut (l := [some (.ref 10), some (.int x1), some (.int x2), some (.int x6), some (.int y0), some (.int (x5 + (nI 1))), none]) ⟨rfl, ⟨rfl, ⟨rfl, ⟨rfl, ⟨rfl, ⟨rfl, trivial⟩⟩⟩⟩⟩⟩ ?_
    exact hk38 x6 y0 (x5 + (nI 1)) s _ hf
  · rw [if_neg hc1] at hf
    refine t_cT (t := 106) (rfl : mfetch 162 98 = some (98, .if_icmp .ge 8, 3, 0, 0, 0)) rfl (k_ge hc1) ?_
    refine mEnds.stp 4 (pc' := 38) (l' := [some (.ref 10), some (.int x1), some (.int x2), some (.int x3), some (.int y0), some (.int (x5 + (nI 1))), some (.int x6)]) (st' := []) (fun _ => rfl) ?_
    refine mEnds.cut (l := [some (.ref 10), some (.int x1), some (.int x2), some (.int x3), some (.int y0), some (.int (x5 + (nI 1))), none]) ⟨rfl, ⟨rfl, ⟨rfl, ⟨rfl, ⟨rfl, ⟨rfl, trivial⟩⟩⟩⟩⟩⟩ ?_
    exact hk38 x3 y0 (x5 + (nI 1)) s _ hf
def M_seal_38 (x1 : Int32) (x2 : Int32) : Nat → Int32 → Int32 → Int32 → sg → Option (Int32 × sg)
  | 0, _, _, _, _ => none
  | fu + 1, x3, x4, x5, s =>
  if x5 < (s 10 1) - (nI 1) then
    (M_copies (nI 0) (nI 260) s).bind fun s1 =>
    (midx ((nI 296) + x5) 312).bind fun j1 =>
    (some (up s1 11 j1 (-2))).bind fun s2 =>
    (M_hoursGo (nI 260) x1 s2).bind fun v2 =>
    if v2.1 < x3 then
      M_seal_93 (M_seal_38 x1 x2 fu) x1 x2 x3 x5 v2.1 x5 v2.2
    else
      M_seal_93 (M_seal_38 x1 x2 fu) x1 x2 x3 x5 v2.1 x4 v2.2
  else
    if x4 = (-4) then
      some (x4, s)
    else
      if x2 = 0 then
        some (x4, s)
      else
        some (x3, s)
set_option maxRecDepth 100000 in
theorem ok_M_seal_38 {x1 : Int32} {x2 : Int32} : ∀ (fu : Nat) (x3 : Int32) (x4 : Int32) (x5 : Int32) (s : sg) (rv : (Int32 × sg)), M_seal_38 x1 x2 fu x3 x4 x5 s = some rv → mEnds [] 5 162 (38, [some (.ref 10), some (.int x1), some (.int x2), some (.int x3), some (.int x4), some (.int x5), none], [], hp shM s, 0, 0) (some (.int rv.1), hp shM rv.2, 0, 0)
  | 0, _, _, _, _, _, hf => by cases hf
  | fu + 1, x3, x4, x5, s, rv, hf => by
    rw [M_seal_38] at hf
    refine mEnds.stp 2 (pc' := 41) (l' := [some (.ref 10), some (.int x1), some (.int x2), some (.int x3), some (.int x4), some (.int x5), none]) (st' := [.ref 10, .int x5]) (fun _ => rfl) ?_
    refine t_gi (rfl : mfetch 162 41 = some (41, .getfield 139, 3, 5, 1, 0)) rfl rfl ?_
    refine mEnds.stp 2 (pc' := 46) (l' := [some (.ref 10), some (.int x1), some (.int x2), some (.int x3), some (.int x4), some (.int x5), none]) (st' := [.int ((s 10 1) - (nI 1)), .int x5]) (fun _ => rfl) ?_
    by_cases hc1 : x5 < (s 10 1) - (nI 1)
    · rw [if_pos hc1] at hf
      refine t_cF (rfl : mfetch 162 46 = some (46, .if_icmp .ge 68, 3, 0, 0, 0)) (k_ge' hc1) ?_
      refine mEnds.stp 3 (pc' := 54) (l' := [some (.ref 10), some (.int x1), some (.int x2), some (.int x3), some (.int x4), some (.int x5), none]) (st' := [.int (nI 260), .int (nI 0), .ref 10]) (fun _ => rfl) ?_
      obtain ⟨s1, hs1, hf⟩ := ob hf
      refine t_cv (as := [.int (nI 0), .int (nI 260)]) (st := []) (rfl : mfetch 162 54 = some (54, .invokevirtual 201, 3, 152, 0, 0)) rfl rfl rfl rfl rfl ((ok_M_copies hs1).deep 4) ?_
      refine mEnds.stp 1 (pc' := 58) (l' := [some (.ref 10), some (.int x1), some (.int x2), some (.int x3), some (.int x4), some (.int x5), none]) (st' := [.ref 10]) (fun _ => rfl) ?_
      refine t_gr (rfl : mfetch 162 58 = some (58, .getfield 7, 3, 5, 0, 0)) rfl rfl ?_
      refine mEnds.stp 4 (pc' := 69) (l' := [some (.ref 10), some (.int x1), some (.int x2), some (.int x3), some (.int x4), some (.int x5), none]) (st' := [.int (-2), .int ((nI 296) + x5), .ref 11]) (fun _ => rfl) ?_
      obtain ⟨j1, hj1, hf⟩ := ob hf
      obtain ⟨s2, hs2, hf⟩ := ob hf
      refine t_is (rfl : mfetch 162 69 = some (69, .iastore, 1, 0, 0, 0)) rfl rfl hj1 hs2 ?_
      refine mEnds.stp 3 (pc' := 75) (l' := [some (.ref 10), some (.int x1), some (.int x2), some (.int x3), some (.int x4), some (.int x5), none]) (st' := [.int x1, .int (nI 260), .ref 10]) (fun _ => rfl) ?_
      obtain ⟨v2, hv2, hf⟩ := ob hf
      refine t_cv (as := [.int (nI 260), .int x1]) (st := []) (rfl : mfetch 162 75 = some (75, .invokevirtual 215, 3, 153, 0, 0)) rfl rfl rfl rfl rfl (ok_M_hoursGo hv2) ?_
      refine mEnds.stp 3 (pc' := 83) (l' := [some (.ref 10), some (.int x1), some (.int x2), some (.int x3), some (.int x4), some (.int x5), some (.int v2.1)]) (st' := [.int x3, .int v2.1]) (fun _ => rfl) ?_
      by_cases hc4 : v2.1 < x3
      · rw [if_pos hc4] at hf
        refine t_cF (rfl : mfetch 162 83 = some (83, .if_icmp .ge 8, 3, 0, 0, 0)) (k_ge' hc4) ?_
        refine mEnds.stp 2 (pc' := 93) (l' := [some (.ref 10), some (.int x1), some (.int x2), some (.int x3), some (.int x4), some (.int x5), some (.int v2.1)]) (st' := [.int x5]) (fun _ => rfl) ?_
        refine mEnds.cut (l := [some (.ref 10), some (.int x1), some (.int x2), some (.int x3), none, some (.int x5), some (.int v2.1)]) ⟨rfl, ⟨rfl, ⟨rfl, ⟨rfl, ⟨rfl, ⟨rfl, trivial⟩⟩⟩⟩⟩⟩ ?_
        exact ok_M_seal_93 (ok_M_seal_38 fu) hf
      · rw [if_neg hc4] at hf
        refine t_cT (t := 91) (rfl : mfetch 162 83 = some (83, .if_icmp .ge 8, 3, 0, 0, 0)) rfl (k_ge hc4) ?_
        refine mEnds.stp 1 (pc' := 93) (l' := [some (.ref 10), some (.int x1), some (.int x2), some (.int x3), some (.int x4), some (.int x5), some (.int v2.1)]) (st' := [.int x4]) (fun _ => rfl) ?_
        refine mEnds.cut (l := [some (.ref 10), some (.int x1), some (.int x2), some (.int x3), none, some (.int x5), some (.int v2.1)]) ⟨rfl, ⟨rfl, ⟨rfl, ⟨rfl, ⟨rfl, ⟨rfl, trivial⟩⟩⟩⟩⟩⟩ ?_
        exact ok_M_seal_93 (ok_M_seal_38 fu) hf
    · rw [if_neg hc1] at hf
      refine t_cT (t := 114) (rfl : mfetch 162 46 = some (46, .if_icmp .ge 68, 3, 0, 0, 0)) rfl (k_ge hc1) ?_
      refine mEnds.stp 2 (pc' := 118) (l' := [some (.ref 10), some (.int x1), some (.int x2), some (.int x3), some (.int x4), some (.int x5), none]) (st' := [.int (-4), .int x4]) (fun _ => rfl) ?_
      by_cases hc2 : x4 = (-4)
      · rw [if_pos hc2] at hf
        refine t_cT (t := 125) (rfl : mfetch 162 118 = some (118, .if_icmp .eq 7, 3, 0, 0, 0)) rfl (k_eq hc2) ?_
        refine mEnds.stp 2 (pc' := 131) (l' := [some (.ref 10), some (.int x1), some (.int x2), some (.int x3), some (.int x4), some (.int x5), none]) (st' := [.int x4]) (fun _ => rfl) ?_
        exact mEnds.rti (Option.some.inj hf) (fun _ => rfl)
      · rw [if_neg hc2] at hf
        refine t_cF (rfl : mfetch 162 118 = some (118, .if_icmp .eq 7, 3, 0, 0, 0)) (k_eq' hc2) ?_
        refine mEnds.stp 1 (pc' := 122) (l' := [some (.ref 10), some (.int x1), some (.int x2), some (.int x3), some (.int x4), some (.int x5), none]) (st' := [.int x2]) (fun _ => rfl) ?_
        by_cases hc3 : x2 = 0
        · rw [if_pos hc3] at hf
          refine t_jF (rfl : mfetch 162 122 = some (122, .ifCond .ne 8, 3, 0, 0, 0)) (k_ne' hc3) ?_
          refine mEnds.stp 2 (pc' := 131) (l' := [some (.ref 10), some (.int x1), some (.int x2), some (.int x3), some (.int x4), some (.int x5), none]) (st' := [.int x4]) (fun _ => rfl) ?_
          exact mEnds.rti (Option.some.inj hf) (fun _ => rfl)
        · rw [if_neg hc3] at hf
          refine t_jT (t := 130) (rfl : mfetch 162 122 = some (122, .ifCond .ne 8, 3, 0, 0, 0)) rfl (k_ne hc3) ?_
          refine mEnds.stp 1 (pc' := 131) (l' := [some (.ref 10), some (.int x1), some (.int x2), some (.int x3), some (.int x4), some (.int x5), none]) (st' := [.int x3]) (fun _ => rfl) ?_
          exact mEnds.rti (Option.some.inj hf) (fun _ => rfl)
def M_seal (x1 : Int32) (x2 : Int32) (s : sg) : Option (Int32 × sg) :=
  (M_in x1.toInt64 (0 : Int64) (60 : Int64) s).bind fun v1 =>
  if v1 = 0 then
    some ((-1), s)
  else
    (M_in x2.toInt64 (0 : Int64) (1 : Int64) s).bind fun v2 =>
    if v2 = 0 then
      some ((-1), s)
    else
      (M_hoursGo (nI 0) x1 s).bind fun v3 =>
      M_seal_38 x1 x2 FU v3.1 (-4) (nI 0) v3.2
set_option maxRecDepth 100000 in
theorem ok_M_seal {x1 : Int32} {x2 : Int32} {s : sg} {rv : (Int32 × sg)} (hf : M_seal x1 x2 s = some rv) : mEnds [] 5 162 (0, [some (.ref 10), some (.int x1), some (.int x2), none, none, none, none], [], hp shM s, 0, 0) (some (.int rv.1), hp shM rv.2, 0, 0) := by
  unfold M_seal at hf
  refine mEnds.stp 4 (pc' := 6) (l' := [some (.ref 10), some (.int x1), some (.int x2), none, none, none, none]) (st' := [.long (60 : Int64), .long (0 : Int64), .long x1.toInt64]) (fun _ => rfl) ?_
  obtain ⟨v1, hv1, hf⟩ := ob hf
  refine t_cs (as := [.long x1.toInt64, .long (0 : Int64), .long (60 : Int64)]) (st := []) (Or.inl rfl) (rfl : mfetch 162 6 = some (6, .invokestatic 49, 3, 111, 0, 0)) rfl rfl rfl ((ok_M_in hv1).deep 4) ?_
  by_cases hc1 : v1 = 0
  · rw [if_pos hc1] at hf
    refine t_jT (t := 22) (rfl : mfetch 162 9 = some (9, .ifCond .eq 13, 3, 0, 0, 0)) rfl (k_eq hc1) ?_
    refine mEnds.stp 1 (pc' := 23) (l' := [some (.ref 10), some (.int x1), some (.int x2), none, none, none, none]) (st' := [.int (-1)]) (fun _ => rfl) ?_
    exact mEnds.rti (Option.some.inj hf) (fun _ => rfl)
  · rw [if_neg hc1] at hf
    refine t_jF (rfl : mfetch 162 9 = some (9, .ifCond .eq 13, 3, 0, 0, 0)) (k_eq' hc1) ?_
    refine mEnds.stp 4 (pc' := 16) (l' := [some (.ref 10), some (.int x1), some (.int x2), none, none, none, none]) (st' := [.long (1 : Int64), .long (0 : Int64), .long x2.toInt64]) (fun _ => rfl) ?_
    obtain ⟨v2, hv2, hf⟩ := ob hf
    refine t_cs (as := [.long x2.toInt64, .long (0 : Int64), .long (1 : Int64)]) (st := []) (Or.inl rfl) (rfl : mfetch 162 16 = some (16, .invokestatic 49, 3, 111, 0, 0)) rfl rfl rfl ((ok_M_in hv2).deep 4) ?_
    by_cases hc2 : v2 = 0
    · rw [if_pos hc2] at hf
      refine t_jF (rfl : mfetch 162 19 = some (19, .ifCond .ne 5, 3, 0, 0, 0)) (k_ne' hc2) ?_
      refine mEnds.stp 1 (pc' := 23) (l' := [some (.ref 10), some (.int x1), some (.int x2), none, none, none, none]) (st' := [.int (-1)]) (fun _ => rfl) ?_
      exact mEnds.rti (Option.some.inj hf) (fun _ => rfl)
    · rw [if_neg hc2] at hf
      refine t_jT (t := 24) (rfl : mfetch 162 19 = some (19, .ifCond .ne 5, 3, 0, 0, 0)) rfl (k_ne hc2) ?_
      refine mEnds.stp 3 (pc' := 27) (l' := [some (.ref 10), some (.int x1), some (.int x2), none, none, none, none]) (st' := [.int x1, .int (nI 0), .ref 10]) (fun _ => rfl) ?_
      obtain ⟨v3, hv3, hf⟩ := ob hf
      refine t_cv (as := [.int (nI 0), .int x1]) (st := []) (rfl : mfetch 162 27 = some (27, .invokevirtual 215, 3, 153, 0, 0)) rfl rfl rfl rfl rfl (ok_M_hoursGo hv3) ?_
      refine mEnds.stp 5 (pc' := 38) (l' := [some (.ref 10), some (.int x1), some (.int x2), some (.int v3.1), some (.int (-4)), some (.int (nI 0)), none]) (st' := []) (fun _ => rfl) ?_
      refine mEnds.cut (l := [some (.ref 10), some (.int x1), some (.int x2), some (.int v3.1), some (.int (-4)), some (.int (nI 0)), none]) ⟨rfl, ⟨rfl, ⟨rfl, ⟨rfl, ⟨rfl, ⟨rfl, trivial⟩⟩⟩⟩⟩⟩ ?_
      exact ok_M_seal_38 FU v3.1 (-4) (nI 0) v3.2 _ hf
def M_spare_126 (k47 : Int32 → Int32 → Int32 → sg → Option (Int32 × sg)) (x1 : Int32) (x2 : Int32) (x3 : Int32) (x4 : Int32) (x6 : Int32) (x7 : Int32) (x8 : Int32) (y0 : Int32) (s : sg) : Option (Int32 × sg) :=
  if x8 = 0 then
    k47 x4 y0 (x6 + (nI 1)) s
  else
    k47 x7 y0 (x6 + (nI 1)) s
set_option maxRecDepth 100000 in
theorem ok_M_spare_126 {k47 : Int32 → Int32 → Int32 → sg → Option (Int32 × sg)} {x1 : Int32} {x2 : Int32} {x3 : Int32} {x4 : Int32} {x6 : Int32} {x7 : Int32} {x8 : Int32} {y0 : Int32} {s : sg} {rv : (Int32 × sg)} (hk47 : ∀ (x4 : Int32) (x5 : Int32) (x6 : Int32) (s : sg) (rv : (Int32 × sg)), k47 x4 x5 x6 s = some rv → mEnds [] 5 163 (47, [some (.ref 10), some (.int x1), some (.int x2), some (.int x3), some (.int x4), some (.int x5), some (.int x6), none, none], [], hp shM s, 0, 0) (some (.int rv.1), hp shM rv.2, 0, 0)) (hf : M_spare_126 k47 x1 x2 x3 x4 x6 x7 x8 y0 s = some rv) : mEnds [] 5 163 (126, [some (.ref 10), some (.int x1), some (.int x2), some (.int x3), some (.int x4), none, some (.int x6), some (.int x7), some (.int x8)], [.int y0], hp shM s, 0, 0) (some (.int rv.1), hp shM rv.2, 0, 0) := by
  unfold M_spare_126 at hf
  refine mEnds.stp 2 (pc' := 130) (l' := [some (.ref 10), some (.int x1), some (.int x2), some (.int x3), some (.int x4), some (.int y0), some (.int x6), some (.int x7), some (.int x8)]) (st' := [.int x8]) (fun _ => rfl) ?_
  by_cases hc1 : x8 = 0
  · rw [if_pos hc1] at hf
    refine t_jT (t := 138) (rfl : mfetch 163 130 = some (130, .ifCond .eq 8, 3, 0, 0, 0)) rfl (k_eq hc1) ?_
    refine mEnds.stp 4 (pc' := 47) (l' := [some (.ref 10), some (.int x1), some (.int x2), some (.int x3), some (.int x4), some (.int y0), some (.int (x6 + (nI 1))), some (.int x7), some (.int x8)]) (st' := []) (fun _ => rfl) ?_
    refine mEnds.cut (l := [some (.ref 10), some (.int x1), some (.int x2), some (.int x3), some (.int x4), some (.int y0), some (.int (x6 + (nI 1))), none, none]) ⟨rfl, ⟨rfl, ⟨rfl, ⟨rfl, ⟨rfl, ⟨rfl, ⟨rfl, trivial⟩⟩⟩⟩⟩⟩⟩ ?_
    exact hk47 x4 y0 (x6 + (nI 1)) s _ hf
  · rw [if_neg hc1] at hf
    refine t_jF (rfl : mfetch 163 130 = some (130, .ifCond .eq 8, 3, 0, 0, 0)) (k_eq' hc1) ?_
    refine mEnds.stp 5 (pc' := 47) (l' := [some (.ref 10), some (.int x1), some (.int x2), some (.int x3), some (.int x7), some (.int y0), some (.int (x6 + (nI 1))), some (.int x7), some (.int x8)]) (st' := []) (fun _ => rfl) ?_
    refine mEnds.cut (l := [some (.ref 10), some (.int x1), some (.int x2), some (.int x3), some (.int x7), some (.int y0), some (.int (x6 + (nI 1))), none, none]) ⟨rfl, ⟨rfl, ⟨rfl, ⟨rfl, ⟨rfl, ⟨rfl, ⟨rfl, trivial⟩⟩⟩⟩⟩⟩⟩ ?_
    exact hk47 x7 y0 (x6 + (nI 1)) s _ hf
def M_spare_112 (k47 : Int32 → Int32 → Int32 → sg → Option (Int32 × sg)) (x1 : Int32) (x2 : Int32) (x3 : Int32) (x4 : Int32) (x5 : Int32) (x6 : Int32) (x7 : Int32) (y0 : Int32) (s : sg) : Option (Int32 × sg) :=
  if y0 = 0 then
    M_spare_126 k47 x1 x2 x3 x4 x6 x7 y0 x5 s
  else
    M_spare_126 k47 x1 x2 x3 x4 x6 x7 y0 x6 s
set_option maxRecDepth 100000 in
theorem ok_M_spare_112 {k47 : Int32 → Int32 → Int32 → sg → Option (Int32 × sg)} {x1 : Int32} {x2 : Int32} {x3 : Int32} {x4 : Int32} {x5 : Int32} {x6 : Int32} {x7 : Int32} {y0 : Int32} {s : sg} {rv : (Int32 × sg)} (hk47 : ∀ (x4 : Int32) (x5 : Int32) (x6 : Int32) (s : sg) (rv : (Int32 × sg)), k47 x4 x5 x6 s = some rv → mEnds [] 5 163 (47, [some (.ref 10), some (.int x1), some (.int x2), some (.int x3), some (.int x4), some (.int x5), some (.int x6), none, none], [], hp shM s, 0, 0) (some (.int rv.1), hp shM rv.2, 0, 0)) (hf : M_spare_112 k47 x1 x2 x3 x4 x5 x6 x7 y0 s = some rv) : mEnds [] 5 163 (112, [some (.ref 10), some (.int x1), some (.int x2), some (.int x3), some (.int x4), some (.int x5), some (.int x6), some (.int x7), none], [.int y0], hp shM s, 0, 0) (some (.int rv.1), hp shM rv.2, 0, 0) := by
  unfold M_spare_112 at hf
  refine mEnds.stp 2 (pc' := 116) (l' := [some (.ref 10), some (.int x1), some (.int x2), some (.int x3), some (.int x4), some (.int x5), some (.int x6), some (.int x7), some (.int y0)]) (st' := [.int y0]) (fun _ => rfl) ?_
  by_cases hc1 : y0 = 0
  · rw [if_pos hc1] at hf
    refine t_jT (t := 124) (rfl : mfetch 163 116 = some (116, .ifCond .eq 8, 3, 0, 0, 0)) rfl (k_eq hc1) ?_
    refine mEnds.stp 1 (pc' := 126) (l' := [some (.ref 10), some (.int x1), some (.int x2), some (.int x3), some (.int x4), some (.int x5), some (.int x6), some (.int x7), some (.int y0)]) (st' := [.int x5]) (fun _ => rfl) ?_
    refine mEnds.cut (l := [some (.ref 10), some (.int x1), some (.int x2), some (.int x3), some (.int x4), none, some (.int x6), some (.int x7), some (.int y0)]) ⟨rfl, ⟨rfl, ⟨rfl, ⟨rfl, ⟨rfl, ⟨rfl, ⟨rfl, ⟨rfl, trivial⟩⟩⟩⟩⟩⟩⟩⟩ ?_
    exact ok_M_spare_126 hk47 hf
  · rw [if_neg hc1] at hf
    refine t_jF (rfl : mfetch 163 116 = some (116, .ifCond .eq 8, 3, 0, 0, 0)) (k_eq' hc1) ?_
    refine mEnds.stp 2 (pc' := 126) (l' := [some (.ref 10), some (.int x1), some (.int x2), some (.int x3), some (.int x4), some (.int x5), some (.int x6), some (.int x7), some (.int y0)]) (st' := [.int x6]) (fun _ => rfl) ?_
    refine mEnds.cut (l := [some (.ref 10), some (.int x1), some (.int x2), some (.int x3), some (.int x4), none, some (.int x6), some (.int x7), some (.int y0)]) ⟨rfl, ⟨rfl, ⟨rfl, ⟨rfl, ⟨rfl, ⟨rfl, ⟨rfl, ⟨rfl, trivial⟩⟩⟩⟩⟩⟩⟩⟩ ?_
    exact ok_M_spare_126 hk47 hf
def M_spare_111 (k47 : Int32 → Int32 → Int32 → sg → Option (Int32 × sg)) (x1 : Int32) (x2 : Int32) (x3 : Int32) (x4 : Int32) (x5 : Int32) (x6 : Int32) (x7 : Int32) (s : sg) : Option (Int32 × sg) :=
  M_spare_112 k47 x1 x2 x3 x4 x5 x6 x7 (nI 0) s
set_option maxRecDepth 100000 in
theorem ok_M_spare_111 {k47 : Int32 → Int32 → Int32 → sg → Option (Int32 × sg)} {x1 : Int32} {x2 : Int32} {x3 : Int32} {x4 : Int32} {x5 : Int32} {x6 : Int32} {x7 : Int32} {s : sg} {rv : (Int32 × sg)} (hk47 : ∀ (x4 : Int32) (x5 : Int32) (x6 : Int32) (s : sg) (rv : (Int32 × sg)), k47 x4 x5 x6 s = some rv → mEnds [] 5 163 (47, [some (.ref 10), some (.int x1), some (.int x2), some (.int x3), some (.int x4), some (.int x5), some (.int x6), none, none], [], hp shM s, 0, 0) (some (.int rv.1), hp shM rv.2, 0, 0)) (hf : M_spare_111 k47 x1 x2 x3 x4 x5 x6 x7 s = some rv) : mEnds [] 5 163 (111, [some (.ref 10), some (.int x1), some (.int x2), some (.int x3), some (.int x4), some (.int x5), some (.int x6), some (.int x7), none], [], hp shM s, 0, 0) (some (.int rv.1), hp shM rv.2, 0, 0) := by
  unfold M_spare_111 at hf
  refine mEnds.stp 1 (pc' := 112) (l' := [some (.ref 10), some (.int x1), some (.int x2), some (.int x3), some (.int x4), some (.int x5), some (.int x6), some (.int x7), none]) (st' := [.int (nI 0)]) (fun _ => rfl) ?_
  refine mEnds.cut (l := [some (.ref 10), some (.int x1), some (.int x2), some (.int x3), some (.int x4), some (.int x5), some (.int x6), some (.int x7), none]) ⟨rfl, ⟨rfl, ⟨rfl, ⟨rfl, ⟨rfl, ⟨rfl, ⟨rfl, ⟨rfl, trivial⟩⟩⟩⟩⟩⟩⟩⟩ ?_
  exact ok_M_spare_112 hk47 hf
def M_spare_47 (x1 : Int32) (x2 : Int32) (x3 : Int32) : Nat → Int32 → Int32 → Int32 → sg → Option (Int32 × sg)
  | 0, _, _, _, _ => none
  | fu + 1, x4, x5, x6, s =>
  if x6 < s 10 1 then
    (M_hasTongue x6 s).bind fun v1 =>
    if v1 = 0 then
      M_spare_47 x1 x2 x3 fu x4 x5 (x6 + (nI 1)) s
    else
      (M_copies (nI 0) (nI 260) s).bind fun s1 =>
      (M_stripsOn (nI 260) x6 s1).bind fun s2 =>
      (M_hoursGo (nI 260) x1 s2).bind fun v4 =>
      if v4.2 10 20 < x2 then
        M_spare_111 (M_spare_47 x1 x2 x3 fu) x1 x2 x3 x4 x5 x6 v4.1 v4.2
      else
        if v4.1 < x4 then
          M_spare_112 (M_spare_47 x1 x2 x3 fu) x1 x2 x3 x4 x5 x6 v4.1 (nI 1) v4.2
        else
          M_spare_111 (M_spare_47 x1 x2 x3 fu) x1 x2 x3 x4 x5 x6 v4.1 v4.2
  else
    if x5 = (-4) then
      some (x5, s)
    else
      if x3 = 0 then
        some (x5, s)
      else
        some (x4, s)
set_option maxRecDepth 100000 in
theorem ok_M_spare_47 {x1 : Int32} {x2 : Int32} {x3 : Int32} : ∀ (fu : Nat) (x4 : Int32) (x5 : Int32) (x6 : Int32) (s : sg) (rv : (Int32 × sg)), M_spare_47 x1 x2 x3 fu x4 x5 x6 s = some rv → mEnds [] 5 163 (47, [some (.ref 10), some (.int x1), some (.int x2), some (.int x3), some (.int x4), some (.int x5), some (.int x6), none, none], [], hp shM s, 0, 0) (some (.int rv.1), hp shM rv.2, 0, 0)
  | 0, _, _, _, _, _, hf => by cases hf
  | fu + 1, x4, x5, x6, s, rv, hf => by
    rw [M_spare_47] at hf
    refine mEnds.stp 2 (pc' := 50) (l' := [some (.ref 10), some (.int x1), some (.int x2), some (.int x3), some (.int x4), some (.int x5), some (.int x6), none, none]) (st' := [.ref 10, .int x6]) (fun _ => rfl) ?_
    refine t_gi (rfl : mfetch 163 50 = some (50, .getfield 139, 3, 5, 1, 0)) rfl rfl ?_
    by_cases hc1 : x6 < s 10 1
    · rw [if_pos hc1] at hf
      refine t_cF (rfl : mfetch 163 53 = some (53, .if_icmp .ge 95, 3, 0, 0, 0)) (k_ge' hc1) ?_
      refine mEnds.stp 2 (pc' := 59) (l' := [some (.ref 10), some (.int x1), some (.int x2), some (.int x3), some (.int x4), some (.int x5), some (.int x6), none, none]) (st' := [.int x6, .ref 10]) (fun _ => rfl) ?_
      obtain ⟨v1, hv1, hf⟩ := ob hf
      refine t_cv (as := [.int x6]) (st := []) (rfl : mfetch 163 59 = some (59, .invokevirtual 173, 3, 128, 0, 0)) rfl rfl rfl rfl rfl ((ok_M_hasTongue hv1).deep 4) ?_
      by_cases hc4 : v1 = 0
      · rw [if_pos hc4] at hf
        refine t_jT (t := 142) (rfl : mfetch 163 62 = some (62, .ifCond .eq 80, 3, 0, 0, 0)) rfl (k_eq hc4) ?_
        refine mEnds.stp 2 (pc' := 47) (l' := [some (.ref 10), some (.int x1), some (.int x2), some (.int x3), some (.int x4), some (.int x5), some (.int (x6 + (nI 1))), none, none]) (st' := []) (fun _ => rfl) ?_
        refine mEnds.cut (l := [some (.ref 10), some (.int x1), some (.int x2), some (.int x3), some (.int x4), some (.int x5), some (.int (x6 + (nI 1))), none, none]) ⟨rfl, ⟨rfl, ⟨rfl, ⟨rfl, ⟨rfl, ⟨rfl, ⟨rfl, trivial⟩⟩⟩⟩⟩⟩⟩ ?_
        exact ok_M_spare_47 fu x4 x5 (x6 + (nI 1)) s _ hf
      · rw [if_neg hc4] at hf
        refine t_jF (rfl : mfetch 163 62 = some (62, .ifCond .eq 80, 3, 0, 0, 0)) (k_eq' hc4) ?_
        refine mEnds.stp 3 (pc' := 70) (l' := [some (.ref 10), some (.int x1), some (.int x2), some (.int x3), some (.int x4), some (.int x5), some (.int x6), none, none]) (st' := [.int (nI 260), .int (nI 0), .ref 10]) (fun _ => rfl) ?_
        obtain ⟨s1, hs1, hf⟩ := ob hf
        refine t_cv (as := [.int (nI 0), .int (nI 260)]) (st := []) (rfl : mfetch 163 70 = some (70, .invokevirtual 201, 3, 152, 0, 0)) rfl rfl rfl rfl rfl ((ok_M_copies hs1).deep 4) ?_
        refine mEnds.stp 3 (pc' := 79) (l' := [some (.ref 10), some (.int x1), some (.int x2), some (.int x3), some (.int x4), some (.int x5), some (.int x6), none, none]) (st' := [.int x6, .int (nI 260), .ref 10]) (fun _ => rfl) ?_
        obtain ⟨s2, hs2, hf⟩ := ob hf
        refine t_cv (as := [.int (nI 260), .int x6]) (st := []) (rfl : mfetch 163 79 = some (79, .invokevirtual 191, 3, 145, 0, 0)) rfl rfl rfl rfl rfl ((ok_M_stripsOn hs2).deep 4) ?_
        refine mEnds.stp 3 (pc' := 87) (l' := [some (.ref 10), some (.int x1), some (.int x2), some (.int x3), some (.int x4), some (.int x5), some (.int x6), none, none]) (st' := [.int x1, .int (nI 260), .ref 10]) (fun _ => rfl) ?_
        obtain ⟨v4, hv4, hf⟩ := ob hf
        refine t_cv (as := [.int (nI 260), .int x1]) (st := []) (rfl : mfetch 163 87 = some (87, .invokevirtual 215, 3, 153, 0, 0)) rfl rfl rfl rfl rfl (ok_M_hoursGo hv4) ?_
        refine mEnds.stp 2 (pc' := 93) (l' := [some (.ref 10), some (.int x1), some (.int x2), some (.int x3), some (.int x4), some (.int x5), some (.int x6), some (.int v4.1), none]) (st' := [.ref 10]) (fun _ => rfl) ?_
        refine t_gi (rfl : mfetch 163 93 = some (93, .getfield 210, 3, 5, 20, 0)) rfl rfl ?_
        refine mEnds.stp 1 (pc' := 97) (l' := [some (.ref 10), some (.int x1), some (.int x2), some (.int x3), some (.int x4), some (.int x5), some (.int x6), some (.int v4.1), none]) (st' := [.int x2, .int (v4.2 10 20)]) (fun _ => rfl) ?_
        by_cases hc5 : v4.2 10 20 < x2
        · rw [if_pos hc5] at hf
          refine t_cT (t := 111) (rfl : mfetch 163 97 = some (97, .if_icmp .lt 14, 3, 0, 0, 0)) rfl (k_lt hc5) ?_
          refine mEnds.cut (l := [some (.ref 10), some (.int x1), some (.int x2), some (.int x3), some (.int x4), some (.int x5), some (.int x6), some (.int v4.1), none]) ⟨rfl, ⟨rfl, ⟨rfl, ⟨rfl, ⟨rfl, ⟨rfl, ⟨rfl, ⟨rfl, trivial⟩⟩⟩⟩⟩⟩⟩⟩ ?_
          exact ok_M_spare_111 (ok_M_spare_47 fu) hf
        · rw [if_neg hc5] at hf
          refine t_cF (rfl : mfetch 163 97 = some (97, .if_icmp .lt 14, 3, 0, 0, 0)) (k_lt' hc5) ?_
          refine mEnds.stp 2 (pc' := 104) (l' := [some (.ref 10), some (.int x1), some (.int x2), some (.int x3), some (.int x4), some (.int x5), some (.int x6), some (.int v4.1), none]) (st' := [.int x4, .int v4.1]) (fun _ => rfl) ?_
          by_cases hc6 : v4.1 < x4
          · rw [if_pos hc6] at hf
            refine t_cF (rfl : mfetch 163 104 = some (104, .if_icmp .ge 7, 3, 0, 0, 0)) (k_ge' hc6) ?_
            refine mEnds.stp 2 (pc' := 112) (l' := [some (.ref 10), some (.int x1), some (.int x2), some (.int x3), some (.int x4), some (.int x5), some (.int x6), some (.int v4.1), none]) (st' := [.int (nI 1)]) (fun _ => rfl) ?_
            refine mEnds.cut (l := [some (.ref 10), some (.int x1), some (.int x2), some (.int x3), some (.int x4), some (.int x5), some (.int x6), some (.int v4.1), none]) ⟨rfl, ⟨rfl, ⟨rfl, ⟨rfl, ⟨rfl, ⟨rfl, ⟨rfl, ⟨rfl, trivial⟩⟩⟩⟩⟩⟩⟩⟩ ?_
            exact ok_M_spare_112 (ok_M_spare_47 fu) hf
          · rw [if_neg hc6] at hf
            refine t_cT (t := 111) (rfl : mfetch 163 104 = some (104, .if_icmp .ge 7, 3, 0, 0, 0)) rfl (k_ge hc6) ?_
            refine mEnds.cut (l := [some (.ref 10), some (.int x1), some (.int x2), some (.int x3), some (.int x4), some (.int x5), some (.int x6), some (.int v4.1), none]) ⟨rfl, ⟨rfl, ⟨rfl, ⟨rfl, ⟨rfl, ⟨rfl, ⟨rfl, ⟨rfl, trivial⟩⟩⟩⟩⟩⟩⟩⟩ ?_
            exact ok_M_spare_111 (ok_M_spare_47 fu) hf
    · rw [if_neg hc1] at hf
      refine t_cT (t := 148) (rfl : mfetch 163 53 = some (53, .if_icmp .ge 95, 3, 0, 0, 0)) rfl (k_ge hc1) ?_
      refine mEnds.stp 2 (pc' := 152) (l' := [some (.ref 10), some (.int x1), some (.int x2), some (.int x3), some (.int x4), some (.int x5), some (.int x6), none, none]) (st' := [.int (-4), .int x5]) (fun _ => rfl) ?_
      by_cases hc2 : x5 = (-4)
      · rw [if_pos hc2] at hf
        refine t_cT (t := 159) (rfl : mfetch 163 152 = some (152, .if_icmp .eq 7, 3, 0, 0, 0)) rfl (k_eq hc2) ?_
        refine mEnds.stp 2 (pc' := 166) (l' := [some (.ref 10), some (.int x1), some (.int x2), some (.int x3), some (.int x4), some (.int x5), some (.int x6), none, none]) (st' := [.int x5]) (fun _ => rfl) ?_
        exact mEnds.rti (Option.some.inj hf) (fun _ => rfl)
      · rw [if_neg hc2] at hf
        refine t_cF (rfl : mfetch 163 152 = some (152, .if_icmp .eq 7, 3, 0, 0, 0)) (k_eq' hc2) ?_
        refine mEnds.stp 1 (pc' := 156) (l' := [some (.ref 10), some (.int x1), some (.int x2), some (.int x3), some (.int x4), some (.int x5), some (.int x6), none, none]) (st' := [.int x3]) (fun _ => rfl) ?_
        by_cases hc3 : x3 = 0
        · rw [if_pos hc3] at hf
          refine t_jF (rfl : mfetch 163 156 = some (156, .ifCond .ne 8, 3, 0, 0, 0)) (k_ne' hc3) ?_
          refine mEnds.stp 2 (pc' := 166) (l' := [some (.ref 10), some (.int x1), some (.int x2), some (.int x3), some (.int x4), some (.int x5), some (.int x6), none, none]) (st' := [.int x5]) (fun _ => rfl) ?_
          exact mEnds.rti (Option.some.inj hf) (fun _ => rfl)
        · rw [if_neg hc3] at hf
          refine t_jT (t := 164) (rfl : mfetch 163 156 = some (156, .ifCond .ne 8, 3, 0, 0, 0)) rfl (k_ne hc3) ?_
          refine mEnds.stp 1 (pc' := 166) (l' := [some (.ref 10), some (.int x1), some (.int x2), some (.int x3), some (.int x4), some (.int x5), some (.int x6), none, none]) (st' := [.int x4]) (fun _ => rfl) ?_
          exact mEnds.rti (Option.some.inj hf) (fun _ => rfl)
def M_spare (x1 : Int32) (x2 : Int32) (x3 : Int32) (s : sg) : Option (Int32 × sg) :=
  (M_in x1.toInt64 (0 : Int64) (60 : Int64) s).bind fun v1 =>
  if v1 = 0 then
    some ((-1), s)
  else
    (M_in x2.toInt64 (0 : Int64) (99 : Int64) s).bind fun v2 =>
    if v2 = 0 then
      some ((-1), s)
    else
      (M_in x3.toInt64 (0 : Int64) (1 : Int64) s).bind fun v3 =>
      if v3 = 0 then
        some ((-1), s)
      else
        M_spare_47 x1 x2 x3 FU (nI 1000000) (-4) (nI 0) s
set_option maxRecDepth 100000 in
theorem ok_M_spare {x1 : Int32} {x2 : Int32} {x3 : Int32} {s : sg} {rv : (Int32 × sg)} (hf : M_spare x1 x2 x3 s = some rv) : mEnds [] 5 163 (0, [some (.ref 10), some (.int x1), some (.int x2), some (.int x3), none, none, none, none, none], [], hp shM s, 0, 0) (some (.int rv.1), hp shM rv.2, 0, 0) := by
  unfold M_spare at hf
  refine mEnds.stp 4 (pc' := 6) (l' := [some (.ref 10), some (.int x1), some (.int x2), some (.int x3), none, none, none, none, none]) (st' := [.long (60 : Int64), .long (0 : Int64), .long x1.toInt64]) (fun _ => rfl) ?_
  obtain ⟨v1, hv1, hf⟩ := ob hf
  refine t_cs (as := [.long x1.toInt64, .long (0 : Int64), .long (60 : Int64)]) (st := []) (Or.inl rfl) (rfl : mfetch 163 6 = some (6, .invokestatic 49, 3, 111, 0, 0)) rfl rfl rfl ((ok_M_in hv1).deep 4) ?_
  by_cases hc1 : v1 = 0
  · rw [if_pos hc1] at hf
    refine t_jT (t := 34) (rfl : mfetch 163 9 = some (9, .ifCond .eq 25, 3, 0, 0, 0)) rfl (k_eq hc1) ?_
    refine mEnds.stp 1 (pc' := 35) (l' := [some (.ref 10), some (.int x1), some (.int x2), some (.int x3), none, none, none, none, none]) (st' := [.int (-1)]) (fun _ => rfl) ?_
    exact mEnds.rti (Option.some.inj hf) (fun _ => rfl)
  · rw [if_neg hc1] at hf
    refine t_jF (rfl : mfetch 163 9 = some (9, .ifCond .eq 25, 3, 0, 0, 0)) (k_eq' hc1) ?_
    refine mEnds.stp 4 (pc' := 18) (l' := [some (.ref 10), some (.int x1), some (.int x2), some (.int x3), none, none, none, none, none]) (st' := [.long (99 : Int64), .long (0 : Int64), .long x2.toInt64]) (fun _ => rfl) ?_
    obtain ⟨v2, hv2, hf⟩ := ob hf
    refine t_cs (as := [.long x2.toInt64, .long (0 : Int64), .long (99 : Int64)]) (st := []) (Or.inl rfl) (rfl : mfetch 163 18 = some (18, .invokestatic 49, 3, 111, 0, 0)) rfl rfl rfl ((ok_M_in hv2).deep 4) ?_
    by_cases hc2 : v2 = 0
    · rw [if_pos hc2] at hf
      refine t_jT (t := 34) (rfl : mfetch 163 21 = some (21, .ifCond .eq 13, 3, 0, 0, 0)) rfl (k_eq hc2) ?_
      refine mEnds.stp 1 (pc' := 35) (l' := [some (.ref 10), some (.int x1), some (.int x2), some (.int x3), none, none, none, none, none]) (st' := [.int (-1)]) (fun _ => rfl) ?_
      exact mEnds.rti (Option.some.inj hf) (fun _ => rfl)
    · rw [if_neg hc2] at hf
      refine t_jF (rfl : mfetch 163 21 = some (21, .ifCond .eq 13, 3, 0, 0, 0)) (k_eq' hc2) ?_
      refine mEnds.stp 4 (pc' := 28) (l' := [some (.ref 10), some (.int x1), some (.int x2), some (.int x3), none, none, none, none, none]) (st' := [.long (1 : Int64), .long (0 : Int64), .long x3.toInt64]) (fun _ => rfl) ?_
      obtain ⟨v3, hv3, hf⟩ := ob hf
      refine t_cs (as := [.long x3.toInt64, .long (0 : Int64), .long (1 : Int64)]) (st := []) (Or.inl rfl) (rfl : mfetch 163 28 = some (28, .invokestatic 49, 3, 111, 0, 0)) rfl rfl rfl ((ok_M_in hv3).deep 4) ?_
      by_cases hc3 : v3 = 0
      · rw [if_pos hc3] at hf
        refine t_jF (rfl : mfetch 163 31 = some (31, .ifCond .ne 5, 3, 0, 0, 0)) (k_ne' hc3) ?_
        refine mEnds.stp 1 (pc' := 35) (l' := [some (.ref 10), some (.int x1), some (.int x2), some (.int x3), none, none, none, none, none]) (st' := [.int (-1)]) (fun _ => rfl) ?_
        exact mEnds.rti (Option.some.inj hf) (fun _ => rfl)
      · rw [if_neg hc3] at hf
        refine t_jT (t := 36) (rfl : mfetch 163 31 = some (31, .ifCond .ne 5, 3, 0, 0, 0)) rfl (k_ne hc3) ?_
        refine mEnds.stp 6 (pc' := 47) (l' := [some (.ref 10), some (.int x1), some (.int x2), some (.int x3), some (.int (nI 1000000)), some (.int (-4)), some (.int (nI 0)), none, none]) (st' := []) (fun _ => rfl) ?_
        refine mEnds.cut (l := [some (.ref 10), some (.int x1), some (.int x2), some (.int x3), some (.int (nI 1000000)), some (.int (-4)), some (.int (nI 0)), none, none]) ⟨rfl, ⟨rfl, ⟨rfl, ⟨rfl, ⟨rfl, ⟨rfl, ⟨rfl, trivial⟩⟩⟩⟩⟩⟩⟩ ?_
        exact ok_M_spare_47 FU (nI 1000000) (-4) (nI 0) s _ hf
def M_lowest_41 (x5 : Int64) (y0 : Int64) (s : sg) : Option Int64 :=
  if x5 = 0 then none else
    some (y0 / x5)
set_option maxRecDepth 100000 in
theorem ok_M_lowest_41 {x5 : Int64} {y0 : Int64} {s : sg} {rv : Int64} (hf : M_lowest_41 x5 y0 s = some rv) : mEnds [] 0 164 (41, [none, none, none, none, none, some (.long x5), none, none, none, none, none], [.long y0], hp shM s, 0, 0) (some (.long rv), hp shM s, 0, 0) := by
  unfold M_lowest_41 at hf
  refine mEnds.stp 1 (pc' := 43) (l' := [none, none, none, none, none, some (.long x5), none, none, none, none, none]) (st' := [.long x5, .long y0]) (fun _ => rfl) ?_
  by_cases hc1 : x5 = 0
  · rw [if_pos hc1] at hf; cases hf
  · rw [if_neg hc1] at hf
    refine t_ld (rfl : mfetch 164 43 = some (43, .ldiv, 1, 0, 0, 0)) hc1 ?_
    cases hf; exact mEnds.rt (fun _ => rfl)
def M_lowest_6 (x0 : Int64) (x2 : Int64) (x4 : Int32) (s : sg) : Nat → Int64 → Int64 → Option Int64
  | 0, _, _ => none
  | fu + 1, x5, x7 =>
  if x7 = (0 : Int64) then
    if x4 = 0 then
      M_lowest_41 x5 x0 s
    else
      M_lowest_41 x5 x2 s
  else
    if x7 = 0 then none else
      M_lowest_6 x0 x2 x4 s fu x7 (x5 - x5 / x7 * x7)
set_option maxRecDepth 100000 in
theorem ok_M_lowest_6 {x0 : Int64} {x2 : Int64} {x4 : Int32} {s : sg} : ∀ (fu : Nat) (x5 : Int64) (x7 : Int64) (rv : Int64), M_lowest_6 x0 x2 x4 s fu x5 x7 = some rv → mEnds [] 0 164 (6, [some (.long x0), none, some (.long x2), none, some (.int x4), some (.long x5), none, some (.long x7), none, none, none], [], hp shM s, 0, 0) (some (.long rv), hp shM s, 0, 0)
  | 0, _, _, _, hf => by cases hf
  | fu + 1, x5, x7, rv, hf => by
    rw [M_lowest_6] at hf
    refine mEnds.stp 2 (pc' := 9) (l' := [some (.long x0), none, some (.long x2), none, some (.int x4), some (.long x5), none, some (.long x7), none, none, none]) (st' := [.long (0 : Int64), .long x7]) (fun _ => rfl) ?_
    refine mEnds.stp 1 (pc' := 10) (l' := [some (.long x0), none, some (.long x2), none, some (.int x4), some (.long x5), none, some (.long x7), none, none, none]) (st' := [.int (lg_cmp x7 (0 : Int64))]) (fun _ => rfl) ?_
    by_cases hc1 : x7 = (0 : Int64)
    · rw [if_pos hc1] at hf
      refine t_jT (t := 31) (rfl : mfetch 164 10 = some (10, .ifCond .eq 21, 3, 0, 0, 0)) rfl (l_eq hc1) ?_
      refine mEnds.stp 1 (pc' := 33) (l' := [some (.long x0), none, some (.long x2), none, some (.int x4), some (.long x5), none, some (.long x7), none, none, none]) (st' := [.int x4]) (fun _ => rfl) ?_
      by_cases hc2 : x4 = 0
      · rw [if_pos hc2] at hf
        refine t_jF (rfl : mfetch 164 33 = some (33, .ifCond .ne 7, 3, 0, 0, 0)) (k_ne' hc2) ?_
        refine mEnds.stp 2 (pc' := 41) (l' := [some (.long x0), none, some (.long x2), none, some (.int x4), some (.long x5), none, some (.long x7), none, none, none]) (st' := [.long x0]) (fun _ => rfl) ?_
        refine mEnds.cut (l := [none, none, none, none, none, some (.long x5), none, none, none, none, none]) ⟨rfl, trivial⟩ ?_
        exact ok_M_lowest_41 hf
      · rw [if_neg hc2] at hf
        refine t_jT (t := 40) (rfl : mfetch 164 33 = some (33, .ifCond .ne 7, 3, 0, 0, 0)) rfl (k_ne hc2) ?_
        refine mEnds.stp 1 (pc' := 41) (l' := [some (.long x0), none, some (.long x2), none, some (.int x4), some (.long x5), none, some (.long x7), none, none, none]) (st' := [.long x2]) (fun _ => rfl) ?_
        refine mEnds.cut (l := [none, none, none, none, none, some (.long x5), none, none, none, none, none]) ⟨rfl, trivial⟩ ?_
        exact ok_M_lowest_41 hf
    · rw [if_neg hc1] at hf
      refine t_jF (rfl : mfetch 164 10 = some (10, .ifCond .eq 21, 3, 0, 0, 0)) (l_eq' hc1) ?_
      refine mEnds.stp 2 (pc' := 17) (l' := [some (.long x0), none, some (.long x2), none, some (.int x4), some (.long x5), none, some (.long x7), none, none, none]) (st' := [.long x7, .long x5]) (fun _ => rfl) ?_
      by_cases hc3 : x7 = 0
      · rw [if_pos hc3] at hf; cases hf
      · rw [if_neg hc3] at hf
        refine t_lr (rfl : mfetch 164 17 = some (17, .lrem, 1, 0, 0, 0)) hc3 ?_
        refine mEnds.stp 6 (pc' := 6) (l' := [some (.long x0), none, some (.long x2), none, some (.int x4), some (.long x7), none, some (.long (x5 - x5 / x7 * x7)), none, some (.long (x5 - x5 / x7 * x7)), none]) (st' := []) (fun _ => rfl) ?_
        refine mEnds.cut (l := [some (.long x0), none, some (.long x2), none, some (.int x4), some (.long x7), none, some (.long (x5 - x5 / x7 * x7)), none, none, none]) ⟨rfl, ⟨rfl, ⟨rfl, ⟨rfl, ⟨rfl, trivial⟩⟩⟩⟩⟩ ?_
        exact ok_M_lowest_6 fu x7 (x5 - x5 / x7 * x7) _ hf
def M_lowest (x0 : Int64) (x2 : Int64) (x4 : Int32) (s : sg) : Option Int64 :=
  M_lowest_6 x0 x2 x4 s FU x0 x2
set_option maxRecDepth 100000 in
theorem ok_M_lowest {x0 : Int64} {x2 : Int64} {x4 : Int32} {s : sg} {rv : Int64} (hf : M_lowest x0 x2 x4 s = some rv) : mEnds [] 0 164 (0, [some (.long x0), none, some (.long x2), none, some (.int x4), none, none, none, none, none, none], [], hp shM s, 0, 0) (some (.long rv), hp shM s, 0, 0) := by
  unfold M_lowest at hf
  refine mEnds.stp 4 (pc' := 6) (l' := [some (.long x0), none, some (.long x2), none, some (.int x4), some (.long x0), none, some (.long x2), none, none, none]) (st' := []) (fun _ => rfl) ?_
  refine mEnds.cut (l := [some (.long x0), none, some (.long x2), none, some (.int x4), some (.long x0), none, some (.long x2), none, none, none]) ⟨rfl, ⟨rfl, ⟨rfl, ⟨rfl, ⟨rfl, trivial⟩⟩⟩⟩⟩ ?_
  exact ok_M_lowest_6 FU x0 x2 _ hf
end Q31f
section Q31g
def M_byFuse_95 (k32 : Int64 → Int32 → sg → Option (Int64 × sg)) (k54 : Int64 → Int32 → sg → Option (Int64 × sg)) (x1 : Int32) (x2 : Int32) (x3 : Int32) (x4 : Int32) (x5 : Int32) (x6 : Int64) (x8 : Int64) (x10 : Int32) (x13 : Int32) (x14 : Int32) (y0 : Int64) (y1 : Int64) (s : sg) : Option (Int64 × sg) :=
  (M_outOn (nI 208) s).bind fun v1 =>
  (M_hourOn (nI 208) v1 x14 s).bind fun s1 =>
  k54 (y1 * y0) (x13 + (nI 1)) s1
set_option maxRecDepth 100000 in
theorem ok_M_byFuse_95 {k32 : Int64 → Int32 → sg → Option (Int64 × sg)} {k54 : Int64 → Int32 → sg → Option (Int64 × sg)} {x1 : Int32} {x2 : Int32} {x3 : Int32} {x4 : Int32} {x5 : Int32} {x6 : Int64} {x8 : Int64} {x10 : Int32} {x13 : Int32} {x14 : Int32} {y0 : Int64} {y1 : Int64} {s : sg} {rv : (Int64 × sg)} (hk32 : ∀ (x6 : Int64) (x10 : Int32) (s : sg) (rv : (Int64 × sg)), k32 x6 x10 s = some rv → mEnds [] 3 165 (32, [some (.ref 10), some (.int x1), some (.int x2), some (.int x3), some (.int x4), some (.int x5), some (.long x6), none, some (.long x8), none, some (.int x10), none, none, none, none], [], hp shM s, 0, 0) (some (.long rv.1), hp shM rv.2, 0, 0)) (hk54 : ∀ (x11 : Int64) (x13 : Int32) (s : sg) (rv : (Int64 × sg)), k54 x11 x13 s = some rv → mEnds [] 3 165 (54, [some (.ref 10), some (.int x1), some (.int x2), some (.int x3), some (.int x4), some (.int x5), some (.long x6), none, some (.long x8), none, some (.int x10), some (.long x11), none, some (.int x13), none], [], hp shM s, 0, 0) (some (.long rv.1), hp shM rv.2, 0, 0)) (hf : M_byFuse_95 k32 k54 x1 x2 x3 x4 x5 x6 x8 x10 x13 x14 y0 y1 s = some rv) : mEnds [] 3 165 (95, [some (.ref 10), some (.int x1), some (.int x2), some (.int x3), some (.int x4), some (.int x5), some (.long x6), none, some (.long x8), none, some (.int x10), none, none, some (.int x13), some (.int x14)], [.long y0, .long y1], hp shM s, 0, 0) (some (.long rv.1), hp shM rv.2, 0, 0) := by
  unfold M_byFuse_95 at hf
  refine mEnds.stp 6 (pc' := 106) (l' := [some (.ref 10), some (.int x1), some (.int x2), some (.int x3), some (.int x4), some (.int x5), some (.long x6), none, some (.long x8), none, some (.int x10), some (.long (y1 * y0)), none, some (.int x13), some (.int x14)]) (st' := [.int (nI 208), .ref 10, .int (nI 208), .ref 10]) (fun _ => rfl) ?_
  obtain ⟨v1, hv1, hf⟩ := ob hf
  refine t_cv (as := [.int (nI 208)]) (st := [.int (nI 208), .ref 10]) (rfl : mfetch 165 106 = some (106, .invokevirtual 154, 3, 133, 0, 0)) rfl rfl rfl rfl rfl ((ok_M_outOn hv1).deep 2) ?_
  refine mEnds.stp 1 (pc' := 111) (l' := [some (.ref 10), some (.int x1), some (.int x2), some (.int x3), some (.int x4), some (.int x5), some (.long x6), none, some (.long x8), none, some (.int x10), some (.long (y1 * y0)), none, some (.int x13), some (.int x14)]) (st' := [.int x14, .int v1, .int (nI 208), .ref 10]) (fun _ => rfl) ?_
  obtain ⟨s1, hs1, hf⟩ := ob hf
  refine t_cv (as := [.int (nI 208), .int v1, .int x14]) (st := []) (rfl : mfetch 165 111 = some (111, .invokevirtual 157, 3, 132, 0, 0)) rfl rfl rfl rfl rfl (ok_M_hourOn hs1) ?_
  refine mEnds.stp 2 (pc' := 54) (l' := [some (.ref 10), some (.int x1), some (.int x2), some (.int x3), some (.int x4), some (.int x5), some (.long x6), none, some (.long x8), none, some (.int x10), some (.long (y1 * y0)), none, some (.int (x13 + (nI 1))), some (.int x14)]) (st' := []) (fun _ => rfl) ?_
  refine mEnds.cut (l := [some (.ref 10), some (.int x1), some (.int x2), some (.int x3), some (.int x4), some (.int x5), some (.long x6), none, some (.long x8), none, some (.int x10), some (.long (y1 * y0)), none, some (.int (x13 + (nI 1))), none]) ⟨rfl, ⟨rfl, ⟨rfl, ⟨rfl, ⟨rfl, ⟨rfl, ⟨rfl, ⟨rfl, ⟨rfl, ⟨rfl, ⟨rfl, trivial⟩⟩⟩⟩⟩⟩⟩⟩⟩⟩⟩ ?_
  exact hk54 (y1 * y0) (x13 + (nI 1)) s1 _ hf
def M_byFuse_76 (k32 : Int64 → Int32 → sg → Option (Int64 × sg)) (k54 : Int64 → Int32 → sg → Option (Int64 × sg)) (x1 : Int32) (x2 : Int32) (x3 : Int32) (x4 : Int32) (x5 : Int32) (x6 : Int64) (x8 : Int64) (x10 : Int32) (x11 : Int64) (x13 : Int32) (y0 : Int32) (s : sg) : Option (Int64 × sg) :=
  if y0 = 0 then
    M_byFuse_95 k32 k54 x1 x2 x3 x4 x5 x6 x8 x10 x13 y0 (((nI 10) - x1).toInt64) x11 s
  else
    M_byFuse_95 k32 k54 x1 x2 x3 x4 x5 x6 x8 x10 x13 y0 x1.toInt64 x11 s
set_option maxRecDepth 100000 in
theorem ok_M_byFuse_76 {k32 : Int64 → Int32 → sg → Option (Int64 × sg)} {k54 : Int64 → Int32 → sg → Option (Int64 × sg)} {x1 : Int32} {x2 : Int32} {x3 : Int32} {x4 : Int32} {x5 : Int32} {x6 : Int64} {x8 : Int64} {x10 : Int32} {x11 : Int64} {x13 : Int32} {y0 : Int32} {s : sg} {rv : (Int64 × sg)} (hk32 : ∀ (x6 : Int64) (x10 : Int32) (s : sg) (rv : (Int64 × sg)), k32 x6 x10 s = some rv → mEnds [] 3 165 (32, [some (.ref 10), some (.int x1), some (.int x2), some (.int x3), some (.int x4), some (.int x5), some (.long x6), none, some (.long x8), none, some (.int x10), none, none, none, none], [], hp shM s, 0, 0) (some (.long rv.1), hp shM rv.2, 0, 0)) (hk54 : ∀ (x11 : Int64) (x13 : Int32) (s : sg) (rv : (Int64 × sg)), k54 x11 x13 s = some rv → mEnds [] 3 165 (54, [some (.ref 10), some (.int x1), some (.int x2), some (.int x3), some (.int x4), some (.int x5), some (.long x6), none, some (.long x8), none, some (.int x10), some (.long x11), none, some (.int x13), none], [], hp shM s, 0, 0) (some (.long rv.1), hp shM rv.2, 0, 0)) (hf : M_byFuse_76 k32 k54 x1 x2 x3 x4 x5 x6 x8 x10 x11 x13 y0 s = some rv) : mEnds [] 3 165 (76, [some (.ref 10), some (.int x1), some (.int x2), some (.int x3), some (.int x4), some (.int x5), some (.long x6), none, some (.long x8), none, some (.int x10), some (.long x11), none, some (.int x13), none], [.int y0], hp shM s, 0, 0) (some (.long rv.1), hp shM rv.2, 0, 0) := by
  unfold M_byFuse_76 at hf
  refine mEnds.stp 3 (pc' := 82) (l' := [some (.ref 10), some (.int x1), some (.int x2), some (.int x3), some (.int x4), some (.int x5), some (.long x6), none, some (.long x8), none, some (.int x10), some (.long x11), none, some (.int x13), some (.int y0)]) (st' := [.int y0, .long x11]) (fun _ => rfl) ?_
  by_cases hc1 : y0 = 0
  · rw [if_pos hc1] at hf
    refine t_jT (t := 90) (rfl : mfetch 165 82 = some (82, .ifCond .eq 8, 3, 0, 0, 0)) rfl (k_eq hc1) ?_
    refine mEnds.stp 4 (pc' := 95) (l' := [some (.ref 10), some (.int x1), some (.int x2), some (.int x3), some (.int x4), some (.int x5), some (.long x6), none, some (.long x8), none, some (.int x10), some (.long x11), none, some (.int x13), some (.int y0)]) (st' := [.long (((nI 10) - x1).toInt64), .long x11]) (fun _ => rfl) ?_
    refine mEnds.cut (l := [some (.ref 10), some (.int x1), some (.int x2), some (.int x3), some (.int x4), some (.int x5), some (.long x6), none, some (.long x8), none, some (.int x10), none, none, some (.int x13), some (.int y0)]) ⟨rfl, ⟨rfl, ⟨rfl, ⟨rfl, ⟨rfl, ⟨rfl, ⟨rfl, ⟨rfl, ⟨rfl, ⟨rfl, ⟨rfl, trivial⟩⟩⟩⟩⟩⟩⟩⟩⟩⟩⟩ ?_
    exact ok_M_byFuse_95 hk32 hk54 hf
  · rw [if_neg hc1] at hf
    refine t_jF (rfl : mfetch 165 82 = some (82, .ifCond .eq 8, 3, 0, 0, 0)) (k_eq' hc1) ?_
    refine mEnds.stp 3 (pc' := 95) (l' := [some (.ref 10), some (.int x1), some (.int x2), some (.int x3), some (.int x4), some (.int x5), some (.long x6), none, some (.long x8), none, some (.int x10), some (.long x11), none, some (.int x13), some (.int y0)]) (st' := [.long x1.toInt64, .long x11]) (fun _ => rfl) ?_
    refine mEnds.cut (l := [some (.ref 10), some (.int x1), some (.int x2), some (.int x3), some (.int x4), some (.int x5), some (.long x6), none, some (.long x8), none, some (.int x10), none, none, some (.int x13), some (.int y0)]) ⟨rfl, ⟨rfl, ⟨rfl, ⟨rfl, ⟨rfl, ⟨rfl, ⟨rfl, ⟨rfl, ⟨rfl, ⟨rfl, ⟨rfl, trivial⟩⟩⟩⟩⟩⟩⟩⟩⟩⟩⟩ ?_
    exact ok_M_byFuse_95 hk32 hk54 hf
def M_byFuse_169 (k32 : Int64 → Int32 → sg → Option (Int64 × sg)) (x1 : Int32) (x2 : Int32) (x3 : Int32) (x4 : Int32) (x5 : Int32) (x8 : Int64) (x10 : Int32) (y0 : Int32) (y1 : Int64) (y2 : Int64) (s : sg) : Option (Int64 × sg) :=
  k32 (y2 + (y1 * y0.toInt64)) (x10 + (nI 1)) s
set_option maxRecDepth 100000 in
theorem ok_M_byFuse_169 {k32 : Int64 → Int32 → sg → Option (Int64 × sg)} {x1 : Int32} {x2 : Int32} {x3 : Int32} {x4 : Int32} {x5 : Int32} {x8 : Int64} {x10 : Int32} {y0 : Int32} {y1 : Int64} {y2 : Int64} {s : sg} {rv : (Int64 × sg)} (hk32 : ∀ (x6 : Int64) (x10 : Int32) (s : sg) (rv : (Int64 × sg)), k32 x6 x10 s = some rv → mEnds [] 3 165 (32, [some (.ref 10), some (.int x1), some (.int x2), some (.int x3), some (.int x4), some (.int x5), some (.long x6), none, some (.long x8), none, some (.int x10), none, none, none, none], [], hp shM s, 0, 0) (some (.long rv.1), hp shM rv.2, 0, 0)) (hf : M_byFuse_169 k32 x1 x2 x3 x4 x5 x8 x10 y0 y1 y2 s = some rv) : mEnds [] 3 165 (169, [some (.ref 10), some (.int x1), some (.int x2), some (.int x3), some (.int x4), some (.int x5), none, none, some (.long x8), none, some (.int x10), none, none, none, none], [.int y0, .long y1, .long y2], hp shM s, 0, 0) (some (.long rv.1), hp shM rv.2, 0, 0) := by
  unfold M_byFuse_169 at hf
  refine mEnds.stp 6 (pc' := 32) (l' := [some (.ref 10), some (.int x1), some (.int x2), some (.int x3), some (.int x4), some (.int x5), some (.long (y2 + (y1 * y0.toInt64))), none, some (.long x8), none, some (.int (x10 + (nI 1))), none, none, none, none]) (st' := []) (fun _ => rfl) ?_
  refine mEnds.cut (l := [some (.ref 10), some (.int x1), some (.int x2), some (.int x3), some (.int x4), some (.int x5), some (.long (y2 + (y1 * y0.toInt64))), none, some (.long x8), none, some (.int (x10 + (nI 1))), none, none, none, none]) ⟨rfl, ⟨rfl, ⟨rfl, ⟨rfl, ⟨rfl, ⟨rfl, ⟨rfl, ⟨rfl, ⟨rfl, trivial⟩⟩⟩⟩⟩⟩⟩⟩⟩ ?_
  exact hk32 (y2 + (y1 * y0.toInt64)) (x10 + (nI 1)) s _ hf
def M_byFuse_54 (k32 : Int64 → Int32 → sg → Option (Int64 × sg)) (x1 : Int32) (x2 : Int32) (x3 : Int32) (x4 : Int32) (x5 : Int32) (x6 : Int64) (x8 : Int64) (x10 : Int32) : Nat → Int64 → Int32 → sg → Option (Int64 × sg)
  | 0, _, _, _ => none
  | fu + 1, x11, x13, s =>
  if x13 < x3 then
    if (x10 >>> (x13 &&& 31)) &&& (nI 1) = nI 1 then
      M_byFuse_76 k32 (M_byFuse_54 k32 x1 x2 x3 x4 x5 x6 x8 x10 fu) x1 x2 x3 x4 x5 x6 x8 x10 x11 x13 (nI 1) s
    else
      M_byFuse_76 k32 (M_byFuse_54 k32 x1 x2 x3 x4 x5 x6 x8 x10 fu) x1 x2 x3 x4 x5 x6 x8 x10 x11 x13 (nI 0) s
  else
    if x2 = (-4) then
      (midx (nI 258) 312).bind fun j2 =>
      (midx (nI 50) 312).bind fun j3 =>
      M_byFuse_169 k32 x1 x2 x3 x4 x5 x8 x10 ((s 11 j2) - (s 11 j3)) x11 x6 s
    else
      (midx ((nI 208) + x2) 312).bind fun j1 =>
      if s 11 j1 < x4 then
        M_byFuse_169 k32 x1 x2 x3 x4 x5 x8 x10 (nI 0) x11 x6 s
      else
        M_byFuse_169 k32 x1 x2 x3 x4 x5 x8 x10 (nI 1) x11 x6 s
set_option maxRecDepth 100000 in
theorem ok_M_byFuse_54 {k32 : Int64 → Int32 → sg → Option (Int64 × sg)} {x1 : Int32} {x2 : Int32} {x3 : Int32} {x4 : Int32} {x5 : Int32} {x6 : Int64} {x8 : Int64} {x10 : Int32} (hk32 : ∀ (x6 : Int64) (x10 : Int32) (s : sg) (rv : (Int64 × sg)), k32 x6 x10 s = some rv → mEnds [] 3 165 (32, [some (.ref 10), some (.int x1), some (.int x2), some (.int x3), some (.int x4), some (.int x5), some (.long x6), none, some (.long x8), none, some (.int x10), none, none, none, none], [], hp shM s, 0, 0) (some (.long rv.1), hp shM rv.2, 0, 0)) : ∀ (fu : Nat) (x11 : Int64) (x13 : Int32) (s : sg) (rv : (Int64 × sg)), M_byFuse_54 k32 x1 x2 x3 x4 x5 x6 x8 x10 fu x11 x13 s = some rv → mEnds [] 3 165 (54, [some (.ref 10), some (.int x1), some (.int x2), some (.int x3), some (.int x4), some (.int x5), some (.long x6), none, some (.long x8), none, some (.int x10), some (.long x11), none, some (.int x13), none], [], hp shM s, 0, 0) (some (.long rv.1), hp shM rv.2, 0, 0)
  | 0, _, _, _, _, hf => by cases hf
  | fu + 1, x11, x13, s, rv, hf => by
    rw [M_byFuse_54] at hf
    refine mEnds.stp 2 (pc' := 57) (l' := [some (.ref 10), some (.int x1), some (.int x2), some (.int x3), some (.int x4), some (.int x5), some (.long x6), none, some (.long x8), none, some (.int x10), some (.long x11), none, some (.int x13), none]) (st' := [.int x3, .int x13]) (fun _ => rfl) ?_
    by_cases hc1 : x13 < x3
    · rw [if_pos hc1] at hf
      refine t_cF (rfl : mfetch 165 57 = some (57, .if_icmp .ge 63, 3, 0, 0, 0)) (k_ge' hc1) ?_
      refine mEnds.stp 6 (pc' := 68) (l' := [some (.ref 10), some (.int x1), some (.int x2), some (.int x3), some (.int x4), some (.int x5), some (.long x6), none, some (.long x8), none, some (.int x10), some (.long x11), none, some (.int x13), none]) (st' := [.int (nI 1), .int ((x10 >>> (x13 &&& 31)) &&& (nI 1))]) (fun _ => rfl) ?_
      by_cases hc4 : (x10 >>> (x13 &&& 31)) &&& (nI 1) = nI 1
      · rw [if_pos hc4] at hf
        refine t_cF (rfl : mfetch 165 68 = some (68, .if_icmp .ne 7, 3, 0, 0, 0)) (k_ne' hc4) ?_
        refine mEnds.stp 2 (pc' := 76) (l' := [some (.ref 10), some (.int x1), some (.int x2), some (.int x3), some (.int x4), some (.int x5), some (.long x6), none, some (.long x8), none, some (.int x10), some (.long x11), none, some (.int x13), none]) (st' := [.int (nI 1)]) (fun _ => rfl) ?_
        refine mEnds.cut (l := [some (.ref 10), some (.int x1), some (.int x2), some (.int x3), some (.int x4), some (.int x5), some (.long x6), none, some (.long x8), none, some (.int x10), some (.long x11), none, some (.int x13), none]) ⟨rfl, ⟨rfl, ⟨rfl, ⟨rfl, ⟨rfl, ⟨rfl, ⟨rfl, ⟨rfl, ⟨rfl, ⟨rfl, ⟨rfl, trivial⟩⟩⟩⟩⟩⟩⟩⟩⟩⟩⟩ ?_
        exact ok_M_byFuse_76 hk32 (ok_M_byFuse_54 hk32 fu) hf
      · rw [if_neg hc4] at hf
        refine t_cT (t := 75) (rfl : mfetch 165 68 = some (68, .if_icmp .ne 7, 3, 0, 0, 0)) rfl (k_ne hc4) ?_
        refine mEnds.stp 1 (pc' := 76) (l' := [some (.ref 10), some (.int x1), some (.int x2), some (.int x3), some (.int x4), some (.int x5), some (.long x6), none, some (.long x8), none, some (.int x10), some (.long x11), none, some (.int x13), none]) (st' := [.int (nI 0)]) (fun _ => rfl) ?_
        refine mEnds.cut (l := [some (.ref 10), some (.int x1), some (.int x2), some (.int x3), some (.int x4), some (.int x5), some (.long x6), none, some (.long x8), none, some (.int x10), some (.long x11), none, some (.int x13), none]) ⟨rfl, ⟨rfl, ⟨rfl, ⟨rfl, ⟨rfl, ⟨rfl, ⟨rfl, ⟨rfl, ⟨rfl, ⟨rfl, ⟨rfl, trivial⟩⟩⟩⟩⟩⟩⟩⟩⟩⟩⟩ ?_
        exact ok_M_byFuse_76 hk32 (ok_M_byFuse_54 hk32 fu) hf
    · rw [if_neg hc1] at hf
      refine t_cT (t := 120) (rfl : mfetch 165 57 = some (57, .if_icmp .ge 63, 3, 0, 0, 0)) rfl (k_ge hc1) ?_
      refine mEnds.stp 4 (pc' := 127) (l' := [some (.ref 10), some (.int x1), some (.int x2), some (.int x3), some (.int x4), some (.int x5), some (.long x6), none, some (.long x8), none, some (.int x10), some (.long x11), none, some (.int x13), none]) (st' := [.int (-4), .int x2, .long x11, .long x6]) (fun _ => rfl) ?_
      by_cases hc2 : x2 = (-4)
      · rw [if_pos hc2] at hf
        refine t_cF (rfl : mfetch 165 127 = some (127, .if_icmp .ne 22, 3, 0, 0, 0)) (k_ne' hc2) ?_
        refine mEnds.stp 1 (pc' := 131) (l' := [some (.ref 10), some (.int x1), some (.int x2), some (.int x3), some (.int x4), some (.int x5), some (.long x6), none, some (.long x8), none, some (.int x10), some (.long x11), none, some (.int x13), none]) (st' := [.ref 10, .long x11, .long x6]) (fun _ => rfl) ?_
        refine t_gr (rfl : mfetch 165 131 = some (131, .getfield 7, 3, 5, 0, 0)) rfl rfl ?_
        refine mEnds.stp 1 (pc' := 137) (l' := [some (.ref 10), some (.int x1), some (.int x2), some (.int x3), some (.int x4), some (.int x5), some (.long x6), none, some (.long x8), none, some (.int x10), some (.long x11), none, some (.int x13), none]) (st' := [.int (nI 258), .ref 11, .long x11, .long x6]) (fun _ => rfl) ?_
        obtain ⟨j2, hj2, hf⟩ := ob hf
        refine t_ia (rfl : mfetch 165 137 = some (137, .iaload, 1, 0, 0, 0)) rfl rfl hj2 ?_
        refine mEnds.stp 1 (pc' := 139) (l' := [some (.ref 10), some (.int x1), some (.int x2), some (.int x3), some (.int x4), some (.int x5), some (.long x6), none, some (.long x8), none, some (.int x10), some (.long x11), none, some (.int x13), none]) (st' := [.ref 10, .int (s 11 j2), .long x11, .long x6]) (fun _ => rfl) ?_
        refine t_gr (rfl : mfetch 165 139 = some (139, .getfield 7, 3, 5, 0, 0)) rfl rfl ?_
        refine mEnds.stp 1 (pc' := 144) (l' := [some (.ref 10), some (.int x1), some (.int x2), some (.int x3), some (.int x4), some (.int x5), some (.long x6), none, some (.long x8), none, some (.int x10), some (.long x11), none, some (.int x13), none]) (st' := [.int (nI 50), .ref 11, .int (s 11 j2), .long x11, .long x6]) (fun _ => rfl) ?_
        obtain ⟨j3, hj3, hf⟩ := ob hf
        refine t_ia (rfl : mfetch 165 144 = some (144, .iaload, 1, 0, 0, 0)) rfl rfl hj3 ?_
        refine mEnds.stp 2 (pc' := 169) (l' := [some (.ref 10), some (.int x1), some (.int x2), some (.int x3), some (.int x4), some (.int x5), some (.long x6), none, some (.long x8), none, some (.int x10), some (.long x11), none, some (.int x13), none]) (st' := [.int ((s 11 j2) - (s 11 j3)), .long x11, .long x6]) (fun _ => rfl) ?_
        refine mEnds.cut (l := [some (.ref 10), some (.int x1), some (.int x2), some (.int x3), some (.int x4), some (.int x5), none, none, some (.long x8), none, some (.int x10), none, none, none, none]) ⟨rfl, ⟨rfl, ⟨rfl, ⟨rfl, ⟨rfl, ⟨rfl, ⟨rfl, ⟨rfl, trivial⟩⟩⟩⟩⟩⟩⟩⟩ ?_
        exact ok_M_byFuse_169 hk32 hf
      · rw [if_neg hc2] at hf
        refine t_cT (t := 149) (rfl : mfetch 165 127 = some (127, .if_icmp .ne 22, 3, 0, 0, 0)) rfl (k_ne hc2) ?_
        refine mEnds.stp 1 (pc' := 150) (l' := [some (.ref 10), some (.int x1), some (.int x2), some (.int x3), some (.int x4), some (.int x5), some (.long x6), none, some (.long x8), none, some (.int x10), some (.long x11), none, some (.int x13), none]) (st' := [.ref 10, .long x11, .long x6]) (fun _ => rfl) ?_
        refine t_gr (rfl : mfetch 165 150 = some (150, .getfield 7, 3, 5, 0, 0)) rfl rfl ?_
        refine mEnds.stp 3 (pc' := 158) (l' := [some (.ref 10), some (.int x1), some (.int x2), some (.int x3), some (.int x4), some (.int x5), some (.long x6), none, some (.long x8), none, some (.int x10), some (.long x11), none, some (.int x13), none]) (st' := [.int ((nI 208) + x2), .ref 11, .long x11, .long x6]) (fun _ => rfl) ?_
        obtain ⟨j1, hj1, hf⟩ := ob hf
        refine t_ia (rfl : mfetch 165 158 = some (158, .iaload, 1, 0, 0, 0)) rfl rfl hj1 ?_
        refine mEnds.stp 1 (pc' := 161) (l' := [some (.ref 10), some (.int x1), some (.int x2), some (.int x3), some (.int x4), some (.int x5), some (.long x6), none, some (.long x8), none, some (.int x10), some (.long x11), none, some (.int x13), none]) (st' := [.int x4, .int (s 11 j1), .long x11, .long x6]) (fun _ => rfl) ?_
        by_cases hc3 : s 11 j1 < x4
        · rw [if_pos hc3] at hf
          refine t_cT (t := 168) (rfl : mfetch 165 161 = some (161, .if_icmp .lt 7, 3, 0, 0, 0)) rfl (k_lt hc3) ?_
          refine mEnds.stp 1 (pc' := 169) (l' := [some (.ref 10), some (.int x1), some (.int x2), some (.int x3), some (.int x4), some (.int x5), some (.long x6), none, some (.long x8), none, some (.int x10), some (.long x11), none, some (.int x13), none]) (st' := [.int (nI 0), .long x11, .long x6]) (fun _ => rfl) ?_
          refine mEnds.cut (l := [some (.ref 10), some (.int x1), some (.int x2), some (.int x3), some (.int x4), some (.int x5), none, none, some (.long x8), none, some (.int x10), none, none, none, none]) ⟨rfl, ⟨rfl, ⟨rfl, ⟨rfl, ⟨rfl, ⟨rfl, ⟨rfl, ⟨rfl, trivial⟩⟩⟩⟩⟩⟩⟩⟩ ?_
          exact ok_M_byFuse_169 hk32 hf
        · rw [if_neg hc3] at hf
          refine t_cF (rfl : mfetch 165 161 = some (161, .if_icmp .lt 7, 3, 0, 0, 0)) (k_lt' hc3) ?_
          refine mEnds.stp 2 (pc' := 169) (l' := [some (.ref 10), some (.int x1), some (.int x2), some (.int x3), some (.int x4), some (.int x5), some (.long x6), none, some (.long x8), none, some (.int x10), some (.long x11), none, some (.int x13), none]) (st' := [.int (nI 1), .long x11, .long x6]) (fun _ => rfl) ?_
          refine mEnds.cut (l := [some (.ref 10), some (.int x1), some (.int x2), some (.int x3), some (.int x4), some (.int x5), none, none, some (.long x8), none, some (.int x10), none, none, none, none]) ⟨rfl, ⟨rfl, ⟨rfl, ⟨rfl, ⟨rfl, ⟨rfl, ⟨rfl, ⟨rfl, trivial⟩⟩⟩⟩⟩⟩⟩⟩ ?_
          exact ok_M_byFuse_169 hk32 hf
def M_byFuse_32 (x1 : Int32) (x2 : Int32) (x3 : Int32) (x4 : Int32) (x5 : Int32) (x8 : Int64) : Nat → Int64 → Int32 → sg → Option (Int64 × sg)
  | 0, _, _, _ => none
  | fu + 1, x6, x10, s =>
  if x10 < (nI 1) <<< (x3 &&& 31) then
    (M_copies (nI 0) (nI 208) s).bind fun s1 =>
    M_byFuse_54 (M_byFuse_32 x1 x2 x3 x4 x5 x8 fu) x1 x2 x3 x4 x5 x6 x8 x10 FU (1 : Int64) (nI 0) s1
  else
    (M_lowest x6 x8 x5 s).bind fun v1 =>
    some (v1, s)
set_option maxRecDepth 100000 in
theorem ok_M_byFuse_32 {x1 : Int32} {x2 : Int32} {x3 : Int32} {x4 : Int32} {x5 : Int32} {x8 : Int64} : ∀ (fu : Nat) (x6 : Int64) (x10 : Int32) (s : sg) (rv : (Int64 × sg)), M_byFuse_32 x1 x2 x3 x4 x5 x8 fu x6 x10 s = some rv → mEnds [] 3 165 (32, [some (.ref 10), some (.int x1), some (.int x2), some (.int x3), some (.int x4), some (.int x5), some (.long x6), none, some (.long x8), none, some (.int x10), none, none, none, none], [], hp shM s, 0, 0) (some (.long rv.1), hp shM rv.2, 0, 0)
  | 0, _, _, _, _, hf => by cases hf
  | fu + 1, x6, x10, s, rv, hf => by
    rw [M_byFuse_32] at hf
    refine mEnds.stp 4 (pc' := 37) (l' := [some (.ref 10), some (.int x1), some (.int x2), some (.int x3), some (.int x4), some (.int x5), some (.long x6), none, some (.long x8), none, some (.int x10), none, none, none, none]) (st' := [.int ((nI 1) <<< (x3 &&& 31)), .int x10]) (fun _ => rfl) ?_
    by_cases hc1 : x10 < (nI 1) <<< (x3 &&& 31)
    · rw [if_pos hc1] at hf
      refine t_cF (rfl : mfetch 165 37 = some (37, .if_icmp .ge 143, 3, 0, 0, 0)) (k_ge' hc1) ?_
      refine mEnds.stp 5 (pc' := 48) (l' := [some (.ref 10), some (.int x1), some (.int x2), some (.int x3), some (.int x4), some (.int x5), some (.long x6), none, some (.long x8), none, some (.int x10), some (.long (1 : Int64)), none, none, none]) (st' := [.int (nI 208), .int (nI 0), .ref 10]) (fun _ => rfl) ?_
      obtain ⟨s1, hs1, hf⟩ := ob hf
      refine t_cv (as := [.int (nI 0), .int (nI 208)]) (st := []) (rfl : mfetch 165 48 = some (48, .invokevirtual 201, 3, 152, 0, 0)) rfl rfl rfl rfl rfl ((ok_M_copies hs1).deep 2) ?_
      refine mEnds.stp 2 (pc' := 54) (l' := [some (.ref 10), some (.int x1), some (.int x2), some (.int x3), some (.int x4), some (.int x5), some (.long x6), none, some (.long x8), none, some (.int x10), some (.long (1 : Int64)), none, some (.int (nI 0)), none]) (st' := []) (fun _ => rfl) ?_
      refine mEnds.cut (l := [some (.ref 10), some (.int x1), some (.int x2), some (.int x3), some (.int x4), some (.int x5), some (.long x6), none, some (.long x8), none, some (.int x10), some (.long (1 : Int64)), none, some (.int (nI 0)), none]) ⟨rfl, ⟨rfl, ⟨rfl, ⟨rfl, ⟨rfl, ⟨rfl, ⟨rfl, ⟨rfl, ⟨rfl, ⟨rfl, ⟨rfl, trivial⟩⟩⟩⟩⟩⟩⟩⟩⟩⟩⟩ ?_
      exact ok_M_byFuse_54 (ok_M_byFuse_32 fu) FU (1 : Int64) (nI 0) s1 _ hf
    · rw [if_neg hc1] at hf
      refine t_cT (t := 180) (rfl : mfetch 165 37 = some (37, .if_icmp .ge 143, 3, 0, 0, 0)) rfl (k_ge hc1) ?_
      refine mEnds.stp 3 (pc' := 186) (l' := [some (.ref 10), some (.int x1), some (.int x2), some (.int x3), some (.int x4), some (.int x5), some (.long x6), none, some (.long x8), none, some (.int x10), none, none, none, none]) (st' := [.int x5, .long x8, .long x6]) (fun _ => rfl) ?_
      obtain ⟨v1, hv1, hf⟩ := ob hf
      refine t_cs (as := [.long x6, .long x8, .int x5]) (st := []) (Or.inl rfl) (rfl : mfetch 165 186 = some (186, .invokestatic 225, 3, 164, 0, 0)) rfl rfl rfl ((ok_M_lowest hv1).deep 2) ?_
      exact mEnds.rtl (Option.some.inj hf) (fun _ => rfl)
def M_byFuse_9 (x1 : Int32) (x2 : Int32) (x3 : Int32) (x4 : Int32) (x5 : Int32) (x6 : Int64) : Nat → Int64 → Int32 → sg → Option (Int64 × sg)
  | 0, _, _, _ => none
  | fu + 1, x8, x10, s =>
  if x10 < x3 then
    M_byFuse_9 x1 x2 x3 x4 x5 x6 fu (x8 * (10 : Int64)) (x10 + (nI 1)) s
  else
    M_byFuse_32 x1 x2 x3 x4 x5 x8 FU x6 (nI 0) s
set_option maxRecDepth 100000 in
theorem ok_M_byFuse_9 {x1 : Int32} {x2 : Int32} {x3 : Int32} {x4 : Int32} {x5 : Int32} {x6 : Int64} : ∀ (fu : Nat) (x8 : Int64) (x10 : Int32) (s : sg) (rv : (Int64 × sg)), M_byFuse_9 x1 x2 x3 x4 x5 x6 fu x8 x10 s = some rv → mEnds [] 3 165 (9, [some (.ref 10), some (.int x1), some (.int x2), some (.int x3), some (.int x4), some (.int x5), some (.long x6), none, some (.long x8), none, some (.int x10), none, none, none, none], [], hp shM s, 0, 0) (some (.long rv.1), hp shM rv.2, 0, 0)
  | 0, _, _, _, _, hf => by cases hf
  | fu + 1, x8, x10, s, rv, hf => by
    rw [M_byFuse_9] at hf
    refine mEnds.stp 2 (pc' := 12) (l' := [some (.ref 10), some (.int x1), some (.int x2), some (.int x3), some (.int x4), some (.int x5), some (.long x6), none, some (.long x8), none, some (.int x10), none, none, none, none]) (st' := [.int x3, .int x10]) (fun _ => rfl) ?_
    by_cases hc1 : x10 < x3
    · rw [if_pos hc1] at hf
      refine t_cF (rfl : mfetch 165 12 = some (12, .if_icmp .ge 17, 3, 0, 0, 0)) (k_ge' hc1) ?_
      refine mEnds.stp 6 (pc' := 9) (l' := [some (.ref 10), some (.int x1), some (.int x2), some (.int x3), some (.int x4), some (.int x5), some (.long x6), none, some (.long (x8 * (10 : Int64))), none, some (.int (x10 + (nI 1))), none, none, none, none]) (st' := []) (fun _ => rfl) ?_
      refine mEnds.cut (l := [some (.ref 10), some (.int x1), some (.int x2), some (.int x3), some (.int x4), some (.int x5), some (.long x6), none, some (.long (x8 * (10 : Int64))), none, some (.int (x10 + (nI 1))), none, none, none, none]) ⟨rfl, ⟨rfl, ⟨rfl, ⟨rfl, ⟨rfl, ⟨rfl, ⟨rfl, ⟨rfl, ⟨rfl, trivial⟩⟩⟩⟩⟩⟩⟩⟩⟩ ?_
      exact ok_M_byFuse_9 fu (x8 * (10 : Int64)) (x10 + (nI 1)) s _ hf
    · rw [if_neg hc1] at hf
      refine t_cT (t := 29) (rfl : mfetch 165 12 = some (12, .if_icmp .ge 17, 3, 0, 0, 0)) rfl (k_ge hc1) ?_
      refine mEnds.stp 2 (pc' := 32) (l' := [some (.ref 10), some (.int x1), some (.int x2), some (.int x3), some (.int x4), some (.int x5), some (.long x6), none, some (.long x8), none, some (.int (nI 0)), none, none, none, none]) (st' := []) (fun _ => rfl) ?_
      refine mEnds.cut (l := [some (.ref 10), some (.int x1), some (.int x2), some (.int x3), some (.int x4), some (.int x5), some (.long x6), none, some (.long x8), none, some (.int (nI 0)), none, none, none, none]) ⟨rfl, ⟨rfl, ⟨rfl, ⟨rfl, ⟨rfl, ⟨rfl, ⟨rfl, ⟨rfl, ⟨rfl, trivial⟩⟩⟩⟩⟩⟩⟩⟩⟩ ?_
      exact ok_M_byFuse_32 FU x6 (nI 0) s _ hf
def M_byFuse (x1 : Int32) (x2 : Int32) (x3 : Int32) (x4 : Int32) (x5 : Int32) (s : sg) : Option (Int64 × sg) :=
  M_byFuse_9 x1 x2 x3 x4 x5 (0 : Int64) FU (1 : Int64) (nI 0) s
set_option maxRecDepth 100000 in
theorem ok_M_byFuse {x1 : Int32} {x2 : Int32} {x3 : Int32} {x4 : Int32} {x5 : Int32} {s : sg} {rv : (Int64 × sg)} (hf : M_byFuse x1 x2 x3 x4 x5 s = some rv) : mEnds [] 3 165 (0, [some (.ref 10), some (.int x1), some (.int x2), some (.int x3), some (.int x4), some (.int x5), none, none, none, none, none, none, none, none, none], [], hp shM s, 0, 0) (some (.long rv.1), hp shM rv.2, 0, 0) := by
  unfold M_byFuse at hf
  refine mEnds.stp 6 (pc' := 9) (l' := [some (.ref 10), some (.int x1), some (.int x2), some (.int x3), some (.int x4), some (.int x5), some (.long (0 : Int64)), none, some (.long (1 : Int64)), none, some (.int (nI 0)), none, none, none, none]) (st' := []) (fun _ => rfl) ?_
  refine mEnds.cut (l := [some (.ref 10), some (.int x1), some (.int x2), some (.int x3), some (.int x4), some (.int x5), some (.long (0 : Int64)), none, some (.long (1 : Int64)), none, some (.int (nI 0)), none, none, none, none]) ⟨rfl, ⟨rfl, ⟨rfl, ⟨rfl, ⟨rfl, ⟨rfl, ⟨rfl, ⟨rfl, ⟨rfl, trivial⟩⟩⟩⟩⟩⟩⟩⟩⟩ ?_
  exact ok_M_byFuse_9 FU (1 : Int64) (nI 0) s _ hf
def M_luck (x1 : Int32) (x2 : Int32) (x3 : Int32) (x4 : Int32) (x5 : Int32) (s : sg) : Option (Int64 × sg) :=
  (M_in x1.toInt64 (0 : Int64) (10 : Int64) s).bind fun v1 =>
  if v1 = 0 then
    some ((-1 : Int64), s)
  else
    (M_isRoom x2 s).bind fun v2 =>
    if v2 = 0 then
      some ((-1 : Int64), s)
    else
      (M_in x3.toInt64 (0 : Int64) (8 : Int64) s).bind fun v3 =>
      if v3 = 0 then
        some ((-1 : Int64), s)
      else
        (M_in x4.toInt64 (0 : Int64) (99 : Int64) s).bind fun v4 =>
        if v4 = 0 then
          some ((-1 : Int64), s)
        else
          (M_in x5.toInt64 (0 : Int64) (1 : Int64) s).bind fun v5 =>
          if v5 = 0 then
            some ((-1 : Int64), s)
          else
            (M_byFuse x1 x2 x3 x4 x5 s).bind fun v6 =>
            some (v6.1, v6.2)
set_option maxRecDepth 100000 in
theorem ok_M_luck {x1 : Int32} {x2 : Int32} {x3 : Int32} {x4 : Int32} {x5 : Int32} {s : sg} {rv : (Int64 × sg)} (hf : M_luck x1 x2 x3 x4 x5 s = some rv) : mEnds [] 4 166 (0, [some (.ref 10), some (.int x1), some (.int x2), some (.int x3), some (.int x4), some (.int x5)], [], hp shM s, 0, 0) (some (.long rv.1), hp shM rv.2, 0, 0) := by
  unfold M_luck at hf
  refine mEnds.stp 4 (pc' := 6) (l' := [some (.ref 10), some (.int x1), some (.int x2), some (.int x3), some (.int x4), some (.int x5)]) (st' := [.long (10 : Int64), .long (0 : Int64), .long x1.toInt64]) (fun _ => rfl) ?_
  obtain ⟨v1, hv1, hf⟩ := ob hf
  refine t_cs (as := [.long x1.toInt64, .long (0 : Int64), .long (10 : Int64)]) (st := []) (Or.inl rfl) (rfl : mfetch 166 6 = some (6, .invokestatic 49, 3, 111, 0, 0)) rfl rfl rfl ((ok_M_in hv1).deep 3) ?_
  by_cases hc1 : v1 = 0
  · rw [if_pos hc1] at hf
    refine t_jT (t := 70) (rfl : mfetch 166 9 = some (9, .ifCond .eq 61, 3, 0, 0, 0)) rfl (k_eq hc1) ?_
    refine mEnds.stp 1 (pc' := 73) (l' := [some (.ref 10), some (.int x1), some (.int x2), some (.int x3), some (.int x4), some (.int x5)]) (st' := [.long (-1 : Int64)]) (fun _ => rfl) ?_
    exact mEnds.rtl (Option.some.inj hf) (fun _ => rfl)
  · rw [if_neg hc1] at hf
    refine t_jF (rfl : mfetch 166 9 = some (9, .ifCond .eq 61, 3, 0, 0, 0)) (k_eq' hc1) ?_
    refine mEnds.stp 2 (pc' := 14) (l' := [some (.ref 10), some (.int x1), some (.int x2), some (.int x3), some (.int x4), some (.int x5)]) (st' := [.int x2, .ref 10]) (fun _ => rfl) ?_
    obtain ⟨v2, hv2, hf⟩ := ob hf
    refine t_cv (as := [.int x2]) (st := []) (rfl : mfetch 166 14 = some (14, .invokevirtual 167, 3, 126, 0, 0)) rfl rfl rfl rfl rfl ((ok_M_isRoom hv2).deep 2) ?_
    by_cases hc2 : v2 = 0
    · rw [if_pos hc2] at hf
      refine t_jT (t := 70) (rfl : mfetch 166 17 = some (17, .ifCond .eq 53, 3, 0, 0, 0)) rfl (k_eq hc2) ?_
      refine mEnds.stp 1 (pc' := 73) (l' := [some (.ref 10), some (.int x1), some (.int x2), some (.int x3), some (.int x4), some (.int x5)]) (st' := [.long (-1 : Int64)]) (fun _ => rfl) ?_
      exact mEnds.rtl (Option.some.inj hf) (fun _ => rfl)
    · rw [if_neg hc2] at hf
      refine t_jF (rfl : mfetch 166 17 = some (17, .ifCond .eq 53, 3, 0, 0, 0)) (k_eq' hc2) ?_
      refine mEnds.stp 4 (pc' := 26) (l' := [some (.ref 10), some (.int x1), some (.int x2), some (.int x3), some (.int x4), some (.int x5)]) (st' := [.long (8 : Int64), .long (0 : Int64), .long x3.toInt64]) (fun _ => rfl) ?_
      obtain ⟨v3, hv3, hf⟩ := ob hf
      refine t_cs (as := [.long x3.toInt64, .long (0 : Int64), .long (8 : Int64)]) (st := []) (Or.inl rfl) (rfl : mfetch 166 26 = some (26, .invokestatic 49, 3, 111, 0, 0)) rfl rfl rfl ((ok_M_in hv3).deep 3) ?_
      by_cases hc3 : v3 = 0
      · rw [if_pos hc3] at hf
        refine t_jT (t := 70) (rfl : mfetch 166 29 = some (29, .ifCond .eq 41, 3, 0, 0, 0)) rfl (k_eq hc3) ?_
        refine mEnds.stp 1 (pc' := 73) (l' := [some (.ref 10), some (.int x1), some (.int x2), some (.int x3), some (.int x4), some (.int x5)]) (st' := [.long (-1 : Int64)]) (fun _ => rfl) ?_
        exact mEnds.rtl (Option.some.inj hf) (fun _ => rfl)
      · rw [if_neg hc3] at hf
        refine t_jF (rfl : mfetch 166 29 = some (29, .ifCond .eq 41, 3, 0, 0, 0)) (k_eq' hc3) ?_
        refine mEnds.stp 4 (pc' := 39) (l' := [some (.ref 10), some (.int x1), some (.int x2), some (.int x3), some (.int x4), some (.int x5)]) (st' := [.long (99 : Int64), .long (0 : Int64), .long x4.toInt64]) (fun _ => rfl) ?_
        obtain ⟨v4, hv4, hf⟩ := ob hf
        refine t_cs (as := [.long x4.toInt64, .long (0 : Int64), .long (99 : Int64)]) (st := []) (Or.inl rfl) (rfl : mfetch 166 39 = some (39, .invokestatic 49, 3, 111, 0, 0)) rfl rfl rfl ((ok_M_in hv4).deep 3) ?_
        by_cases hc4 : v4 = 0
        · rw [if_pos hc4] at hf
          refine t_jT (t := 70) (rfl : mfetch 166 42 = some (42, .ifCond .eq 28, 3, 0, 0, 0)) rfl (k_eq hc4) ?_
          refine mEnds.stp 1 (pc' := 73) (l' := [some (.ref 10), some (.int x1), some (.int x2), some (.int x3), some (.int x4), some (.int x5)]) (st' := [.long (-1 : Int64)]) (fun _ => rfl) ?_
          exact mEnds.rtl (Option.some.inj hf) (fun _ => rfl)
        · rw [if_neg hc4] at hf
          refine t_jF (rfl : mfetch 166 42 = some (42, .ifCond .eq 28, 3, 0, 0, 0)) (k_eq' hc4) ?_
          refine mEnds.stp 4 (pc' := 50) (l' := [some (.ref 10), some (.int x1), some (.int x2), some (.int x3), some (.int x4), some (.int x5)]) (st' := [.long (1 : Int64), .long (0 : Int64), .long x5.toInt64]) (fun _ => rfl) ?_
          obtain ⟨v5, hv5, hf⟩ := ob hf
          refine t_cs (as := [.long x5.toInt64, .long (0 : Int64), .long (1 : Int64)]) (st := []) (Or.inl rfl) (rfl : mfetch 166 50 = some (50, .invokestatic 49, 3, 111, 0, 0)) rfl rfl rfl ((ok_M_in hv5).deep 3) ?_
          by_cases hc5 : v5 = 0
          · rw [if_pos hc5] at hf
            refine t_jT (t := 70) (rfl : mfetch 166 53 = some (53, .ifCond .eq 17, 3, 0, 0, 0)) rfl (k_eq hc5) ?_
            refine mEnds.stp 1 (pc' := 73) (l' := [some (.ref 10), some (.int x1), some (.int x2), some (.int x3), some (.int x4), some (.int x5)]) (st' := [.long (-1 : Int64)]) (fun _ => rfl) ?_
            exact mEnds.rtl (Option.some.inj hf) (fun _ => rfl)
          · rw [if_neg hc5] at hf
            refine t_jF (rfl : mfetch 166 53 = some (53, .ifCond .eq 17, 3, 0, 0, 0)) (k_eq' hc5) ?_
            refine mEnds.stp 6 (pc' := 64) (l' := [some (.ref 10), some (.int x1), some (.int x2), some (.int x3), some (.int x4), some (.int x5)]) (st' := [.int x5, .int x4, .int x3, .int x2, .int x1, .ref 10]) (fun _ => rfl) ?_
            obtain ⟨v6, hv6, hf⟩ := ob hf
            refine t_cv (as := [.int x1, .int x2, .int x3, .int x4, .int x5]) (st := []) (rfl : mfetch 166 64 = some (64, .invokevirtual 231, 3, 165, 0, 0)) rfl rfl rfl rfl rfl (ok_M_byFuse hv6) ?_
            refine mEnds.stp 1 (pc' := 73) (l' := [some (.ref 10), some (.int x1), some (.int x2), some (.int x3), some (.int x4), some (.int x5)]) (st' := [.long v6.1]) (fun _ => rfl) ?_
            exact mEnds.rtl (Option.some.inj hf) (fun _ => rfl)
def M_mean (x1 : Int32) (x2 : Int32) (x3 : Int32) (s : sg) : Option (Int64 × sg) :=
  (M_in x1.toInt64 (0 : Int64) (10 : Int64) s).bind fun v1 =>
  if v1 = 0 then
    some ((-1 : Int64), s)
  else
    (M_in x2.toInt64 (0 : Int64) (8 : Int64) s).bind fun v2 =>
    if v2 = 0 then
      some ((-1 : Int64), s)
    else
      (M_in x3.toInt64 (0 : Int64) (1 : Int64) s).bind fun v3 =>
      if v3 = 0 then
        some ((-1 : Int64), s)
      else
        (M_byFuse x1 (-4) x2 (nI 0) x3 s).bind fun v4 =>
        some (v4.1, v4.2)
set_option maxRecDepth 100000 in
theorem ok_M_mean {x1 : Int32} {x2 : Int32} {x3 : Int32} {s : sg} {rv : (Int64 × sg)} (hf : M_mean x1 x2 x3 s = some rv) : mEnds [] 4 167 (0, [some (.ref 10), some (.int x1), some (.int x2), some (.int x3)], [], hp shM s, 0, 0) (some (.long rv.1), hp shM rv.2, 0, 0) := by
  unfold M_mean at hf
  refine mEnds.stp 4 (pc' := 6) (l' := [some (.ref 10), some (.int x1), some (.int x2), some (.int x3)]) (st' := [.long (10 : Int64), .long (0 : Int64), .long x1.toInt64]) (fun _ => rfl) ?_
  obtain ⟨v1, hv1, hf⟩ := ob hf
  refine t_cs (as := [.long x1.toInt64, .long (0 : Int64), .long (10 : Int64)]) (st := []) (Or.inl rfl) (rfl : mfetch 167 6 = some (6, .invokestatic 49, 3, 111, 0, 0)) rfl rfl rfl ((ok_M_in hv1).deep 3) ?_
  by_cases hc1 : v1 = 0
  · rw [if_pos hc1] at hf
    refine t_jT (t := 47) (rfl : mfetch 167 9 = some (9, .ifCond .eq 38, 3, 0, 0, 0)) rfl (k_eq hc1) ?_
    refine mEnds.stp 1 (pc' := 50) (l' := [some (.ref 10), some (.int x1), some (.int x2), some (.int x3)]) (st' := [.long (-1 : Int64)]) (fun _ => rfl) ?_
    exact mEnds.rtl (Option.some.inj hf) (fun _ => rfl)
  · rw [if_neg hc1] at hf
    refine t_jF (rfl : mfetch 167 9 = some (9, .ifCond .eq 38, 3, 0, 0, 0)) (k_eq' hc1) ?_
    refine mEnds.stp 4 (pc' := 18) (l' := [some (.ref 10), some (.int x1), some (.int x2), some (.int x3)]) (st' := [.long (8 : Int64), .long (0 : Int64), .long x2.toInt64]) (fun _ => rfl) ?_
    obtain ⟨v2, hv2, hf⟩ := ob hf
    refine t_cs (as := [.long x2.toInt64, .long (0 : Int64), .long (8 : Int64)]) (st := []) (Or.inl rfl) (rfl : mfetch 167 18 = some (18, .invokestatic 49, 3, 111, 0, 0)) rfl rfl rfl ((ok_M_in hv2).deep 3) ?_
    by_cases hc2 : v2 = 0
    · rw [if_pos hc2] at hf
      refine t_jT (t := 47) (rfl : mfetch 167 21 = some (21, .ifCond .eq 26, 3, 0, 0, 0)) rfl (k_eq hc2) ?_
      refine mEnds.stp 1 (pc' := 50) (l' := [some (.ref 10), some (.int x1), some (.int x2), some (.int x3)]) (st' := [.long (-1 : Int64)]) (fun _ => rfl) ?_
      exact mEnds.rtl (Option.some.inj hf) (fun _ => rfl)
    · rw [if_neg hc2] at hf
      refine t_jF (rfl : mfetch 167 21 = some (21, .ifCond .eq 26, 3, 0, 0, 0)) (k_eq' hc2) ?_
      refine mEnds.stp 4 (pc' := 28) (l' := [some (.ref 10), some (.int x1), some (.int x2), some (.int x3)]) (st' := [.long (1 : Int64), .long (0 : Int64), .long x3.toInt64]) (fun _ => rfl) ?_
      obtain ⟨v3, hv3, hf⟩ := ob hf
      refine t_cs (as := [.long x3.toInt64, .long (0 : Int64), .long (1 : Int64)]) (st := []) (Or.inl rfl) (rfl : mfetch 167 28 = some (28, .invokestatic 49, 3, 111, 0, 0)) rfl rfl rfl ((ok_M_in hv3).deep 3) ?_
      by_cases hc3 : v3 = 0
      · rw [if_pos hc3] at hf
        refine t_jT (t := 47) (rfl : mfetch 167 31 = some (31, .ifCond .eq 16, 3, 0, 0, 0)) rfl (k_eq hc3) ?_
        refine mEnds.stp 1 (pc' := 50) (l' := [some (.ref 10), some (.int x1), some (.int x2), some (.int x3)]) (st' := [.long (-1 : Int64)]) (fun _ => rfl) ?_
        exact mEnds.rtl (Option.some.inj hf) (fun _ => rfl)
      · rw [if_neg hc3] at hf
        refine t_jF (rfl : mfetch 167 31 = some (31, .ifCond .eq 16, 3, 0, 0, 0)) (k_eq' hc3) ?_
        refine mEnds.stp 6 (pc' := 41) (l' := [some (.ref 10), some (.int x1), some (.int x2), some (.int x3)]) (st' := [.int x3, .int (nI 0), .int x2, .int (-4), .int x1, .ref 10]) (fun _ => rfl) ?_
        obtain ⟨v4, hv4, hf⟩ := ob hf
        refine t_cv (as := [.int x1, .int (-4), .int x2, .int (nI 0), .int x3]) (st := []) (rfl : mfetch 167 41 = some (41, .invokevirtual 231, 3, 165, 0, 0)) rfl rfl rfl rfl rfl (ok_M_byFuse hv4) ?_
        refine mEnds.stp 1 (pc' := 50) (l' := [some (.ref 10), some (.int x1), some (.int x2), some (.int x3)]) (st' := [.long v4.1]) (fun _ => rfl) ?_
        exact mEnds.rtl (Option.some.inj hf) (fun _ => rfl)
def M_see (x1 : Int32) (x2 : Int32) (x3 : Int32) (s : sg) : Option (Int32 × sg) :=
  (M_in x1.toInt64 (0 : Int64) (20 : Int64) s).bind fun v1 =>
  if v1 = 0 then
    some ((-1), s)
  else
    (M_isRoom x2 s).bind fun v2 =>
    if v2 = 0 then
      some ((-1), s)
    else
      (M_in x3.toInt64 (0 : Int64) (99 : Int64) s).bind fun v3 =>
      if v3 = 0 then
        some ((-1), s)
      else
        if s 10 22 = nI 6 then
          some ((-3), s)
        else
          (midx ((nI 3) * (s 10 22)) 18).bind fun j1 =>
          (some (up s 17 j1 x1)).bind fun s1 =>
          (midx (((nI 3) * (s1 10 22)) + (nI 1)) 18).bind fun j2 =>
          (some (up s1 17 j2 x2)).bind fun s2 =>
          (midx (((nI 3) * (s2 10 22)) + (nI 2)) 18).bind fun j3 =>
          (some (up s2 17 j3 x3)).bind fun s3 =>
          (some (up s3 10 22 ((s3 10 22) + (nI 1)))).bind fun s4 =>
          some (s4 10 22, s4)
set_option maxRecDepth 100000 in
theorem ok_M_see {x1 : Int32} {x2 : Int32} {x3 : Int32} {s : sg} {rv : (Int32 × sg)} (hf : M_see x1 x2 x3 s = some rv) : mEnds [] 2 168 (0, [some (.ref 10), some (.int x1), some (.int x2), some (.int x3)], [], hp shM s, 0, 0) (some (.int rv.1), hp shM rv.2, 0, 0) := by
  unfold M_see at hf
  refine mEnds.stp 4 (pc' := 6) (l' := [some (.ref 10), some (.int x1), some (.int x2), some (.int x3)]) (st' := [.long (20 : Int64), .long (0 : Int64), .long x1.toInt64]) (fun _ => rfl) ?_
  obtain ⟨v1, hv1, hf⟩ := ob hf
  refine t_cs (as := [.long x1.toInt64, .long (0 : Int64), .long (20 : Int64)]) (st := []) (Or.inl rfl) (rfl : mfetch 168 6 = some (6, .invokestatic 49, 3, 111, 0, 0)) rfl rfl rfl ((ok_M_in hv1).deep 1) ?_
  by_cases hc1 : v1 = 0
  · rw [if_pos hc1] at hf
    refine t_jT (t := 32) (rfl : mfetch 168 9 = some (9, .ifCond .eq 23, 3, 0, 0, 0)) rfl (k_eq hc1) ?_
    refine mEnds.stp 1 (pc' := 33) (l' := [some (.ref 10), some (.int x1), some (.int x2), some (.int x3)]) (st' := [.int (-1)]) (fun _ => rfl) ?_
    exact mEnds.rti (Option.some.inj hf) (fun _ => rfl)
  · rw [if_neg hc1] at hf
    refine t_jF (rfl : mfetch 168 9 = some (9, .ifCond .eq 23, 3, 0, 0, 0)) (k_eq' hc1) ?_
    refine mEnds.stp 2 (pc' := 14) (l' := [some (.ref 10), some (.int x1), some (.int x2), some (.int x3)]) (st' := [.int x2, .ref 10]) (fun _ => rfl) ?_
    obtain ⟨v2, hv2, hf⟩ := ob hf
    refine t_cv (as := [.int x2]) (st := []) (rfl : mfetch 168 14 = some (14, .invokevirtual 167, 3, 126, 0, 0)) rfl rfl rfl rfl rfl (ok_M_isRoom hv2) ?_
    by_cases hc2 : v2 = 0
    · rw [if_pos hc2] at hf
      refine t_jT (t := 32) (rfl : mfetch 168 17 = some (17, .ifCond .eq 15, 3, 0, 0, 0)) rfl (k_eq hc2) ?_
      refine mEnds.stp 1 (pc' := 33) (l' := [some (.ref 10), some (.int x1), some (.int x2), some (.int x3)]) (st' := [.int (-1)]) (fun _ => rfl) ?_
      exact mEnds.rti (Option.some.inj hf) (fun _ => rfl)
    · rw [if_neg hc2] at hf
      refine t_jF (rfl : mfetch 168 17 = some (17, .ifCond .eq 15, 3, 0, 0, 0)) (k_eq' hc2) ?_
      refine mEnds.stp 4 (pc' := 26) (l' := [some (.ref 10), some (.int x1), some (.int x2), some (.int x3)]) (st' := [.long (99 : Int64), .long (0 : Int64), .long x3.toInt64]) (fun _ => rfl) ?_
      obtain ⟨v3, hv3, hf⟩ := ob hf
      refine t_cs (as := [.long x3.toInt64, .long (0 : Int64), .long (99 : Int64)]) (st := []) (Or.inl rfl) (rfl : mfetch 168 26 = some (26, .invokestatic 49, 3, 111, 0, 0)) rfl rfl rfl ((ok_M_in hv3).deep 1) ?_
      by_cases hc3 : v3 = 0
      · rw [if_pos hc3] at hf
        refine t_jF (rfl : mfetch 168 29 = some (29, .ifCond .ne 5, 3, 0, 0, 0)) (k_ne' hc3) ?_
        refine mEnds.stp 1 (pc' := 33) (l' := [some (.ref 10), some (.int x1), some (.int x2), some (.int x3)]) (st' := [.int (-1)]) (fun _ => rfl) ?_
        exact mEnds.rti (Option.some.inj hf) (fun _ => rfl)
      · rw [if_neg hc3] at hf
        refine t_jT (t := 34) (rfl : mfetch 168 29 = some (29, .ifCond .ne 5, 3, 0, 0, 0)) rfl (k_ne hc3) ?_
        refine mEnds.stp 1 (pc' := 35) (l' := [some (.ref 10), some (.int x1), some (.int x2), some (.int x3)]) (st' := [.ref 10]) (fun _ => rfl) ?_
        refine t_gi (rfl : mfetch 168 35 = some (35, .getfield 142, 3, 5, 22, 0)) rfl rfl ?_
        refine mEnds.stp 1 (pc' := 40) (l' := [some (.ref 10), some (.int x1), some (.int x2), some (.int x3)]) (st' := [.int (nI 6), .int (s 10 22)]) (fun _ => rfl) ?_
        by_cases hc4 : s 10 22 = nI 6
        · rw [if_pos hc4] at hf
          refine t_cF (rfl : mfetch 168 40 = some (40, .if_icmp .ne 6, 3, 0, 0, 0)) (k_ne' hc4) ?_
          refine mEnds.stp 1 (pc' := 45) (l' := [some (.ref 10), some (.int x1), some (.int x2), some (.int x3)]) (st' := [.int (-3)]) (fun _ => rfl) ?_
          exact mEnds.rti (Option.some.inj hf) (fun _ => rfl)
        · rw [if_neg hc4] at hf
          refine t_cT (t := 46) (rfl : mfetch 168 40 = some (40, .if_icmp .ne 6, 3, 0, 0, 0)) rfl (k_ne hc4) ?_
          refine mEnds.stp 1 (pc' := 47) (l' := [some (.ref 10), some (.int x1), some (.int x2), some (.int x3)]) (st' := [.ref 10]) (fun _ => rfl) ?_
          refine t_gr (rfl : mfetch 168 47 = some (47, .getfield 28, 3, 5, 21, 0)) rfl rfl ?_
          refine mEnds.stp 2 (pc' := 52) (l' := [some (.ref 10), some (.int x1), some (.int x2), some (.int x3)]) (st' := [.ref 10, .int (nI 3), .ref 17]) (fun _ => rfl) ?_
          refine t_gi (rfl : mfetch 168 52 = some (52, .getfield 142, 3, 5, 22, 0)) rfl rfl ?_
          refine mEnds.stp 2 (pc' := 57) (l' := [some (.ref 10), some (.int x1), some (.int x2), some (.int x3)]) (st' := [.int x1, .int ((nI 3) * (s 10 22)), .ref 17]) (fun _ => rfl) ?_
          obtain ⟨j1, hj1, hf⟩ := ob hf
          obtain ⟨s1, hs1, hf⟩ := ob hf
          refine t_is (rfl : mfetch 168 57 = some (57, .iastore, 1, 0, 0, 0)) rfl rfl hj1 hs1 ?_
          refine mEnds.stp 1 (pc' := 59) (l' := [some (.ref 10), some (.int x1), some (.int x2), some (.int x3)]) (st' := [.ref 10]) (fun _ => rfl) ?_
          refine t_gr (rfl : mfetch 168 59 = some (59, .getfield 28, 3, 5, 21, 0)) rfl rfl ?_
          refine mEnds.stp 2 (pc' := 64) (l' := [some (.ref 10), some (.int x1), some (.int x2), some (.int x3)]) (st' := [.ref 10, .int (nI 3), .ref 17]) (fun _ => rfl) ?_
          refine t_gi (rfl : mfetch 168 64 = some (64, .getfield 142, 3, 5, 22, 0)) rfl rfl ?_
          refine mEnds.stp 4 (pc' := 71) (l' := [some (.ref 10), some (.int x1), some (.int x2), some (.int x3)]) (st' := [.int x2, .int (((nI 3) * (s1 10 22)) + (nI 1)), .ref 17]) (fun _ => rfl) ?_
          obtain ⟨j2, hj2, hf⟩ := ob hf
          obtain ⟨s2, hs2, hf⟩ := ob hf
          refine t_is (rfl : mfetch 168 71 = some (71, .iastore, 1, 0, 0, 0)) rfl rfl hj2 hs2 ?_
          refine mEnds.stp 1 (pc' := 73) (l' := [some (.ref 10), some (.int x1), some (.int x2), some (.int x3)]) (st' := [.ref 10]) (fun _ => rfl) ?_
          refine t_gr (rfl : mfetch 168 73 = some (73, .getfield 28, 3, 5, 21, 0)) rfl rfl ?_
          refine mEnds.stp 2 (pc' := 78) (l' := [some (.ref 10), some (.int x1), some (.int x2), some (.int x3)]) (st' := [.ref 10, .int (nI 3), .ref 17]) (fun _ => rfl) ?_
          refine t_gi (rfl : mfetch 168 78 = some (78, .getfield 142, 3, 5, 22, 0)) rfl rfl ?_
          refine mEnds.stp 4 (pc' := 85) (l' := [some (.ref 10), some (.int x1), some (.int x2), some (.int x3)]) (st' := [.int x3, .int (((nI 3) * (s2 10 22)) + (nI 2)), .ref 17]) (fun _ => rfl) ?_
          obtain ⟨j3, hj3, hf⟩ := ob hf
          obtain ⟨s3, hs3, hf⟩ := ob hf
          refine t_is (rfl : mfetch 168 85 = some (85, .iastore, 1, 0, 0, 0)) rfl rfl hj3 hs3 ?_
          refine mEnds.stp 2 (pc' := 88) (l' := [some (.ref 10), some (.int x1), some (.int x2), some (.int x3)]) (st' := [.ref 10, .ref 10]) (fun _ => rfl) ?_
          refine t_gi (rfl : mfetch 168 88 = some (88, .getfield 142, 3, 5, 22, 0)) rfl rfl ?_
          refine mEnds.stp 2 (pc' := 93) (l' := [some (.ref 10), some (.int x1), some (.int x2), some (.int x3)]) (st' := [.int ((s3 10 22) + (nI 1)), .ref 10]) (fun _ => rfl) ?_
          obtain ⟨s4, hs4, hf⟩ := ob hf
          refine t_pi (rfl : mfetch 168 93 = some (93, .putfield 142, 3, 5, 22, 0)) rfl rfl rfl rfl hs4 ?_
          refine mEnds.stp 1 (pc' := 97) (l' := [some (.ref 10), some (.int x1), some (.int x2), some (.int x3)]) (st' := [.ref 10]) (fun _ => rfl) ?_
          refine t_gi (rfl : mfetch 168 97 = some (97, .getfield 142, 3, 5, 22, 0)) rfl rfl ?_
          exact mEnds.rti (Option.some.inj hf) (fun _ => rfl)
def M_forget (x1 : Int32) (s : sg) : Option (Int32 × sg) :=
  (M_in x1.toInt64 (0 : Int64) ((s 10 22).toInt64) s).bind fun v1 =>
  if v1 = 0 then
    some ((-1), s)
  else
    (some (up s 10 22 x1)).bind fun s1 =>
    some (s 10 22, s1)
set_option maxRecDepth 100000 in
theorem ok_M_forget {x1 : Int32} {s : sg} {rv : (Int32 × sg)} (hf : M_forget x1 s = some rv) : mEnds [] 1 169 (0, [some (.ref 10), some (.int x1), none], [], hp shM s, 0, 0) (some (.int rv.1), hp shM rv.2, 0, 0) := by
  unfold M_forget at hf
  refine mEnds.stp 4 (pc' := 4) (l' := [some (.ref 10), some (.int x1), none]) (st' := [.ref 10, .long (0 : Int64), .long x1.toInt64]) (fun _ => rfl) ?_
  refine t_gi (rfl : mfetch 169 4 = some (4, .getfield 142, 3, 5, 22, 0)) rfl rfl ?_
  refine mEnds.stp 1 (pc' := 8) (l' := [some (.ref 10), some (.int x1), none]) (st' := [.long ((s 10 22).toInt64), .long (0 : Int64), .long x1.toInt64]) (fun _ => rfl) ?_
  obtain ⟨v1, hv1, hf⟩ := ob hf
  refine t_cs (as := [.long x1.toInt64, .long (0 : Int64), .long ((s 10 22).toInt64)]) (st := []) (Or.inl rfl) (rfl : mfetch 169 8 = some (8, .invokestatic 49, 3, 111, 0, 0)) rfl rfl rfl (ok_M_in hv1) ?_
  by_cases hc1 : v1 = 0
  · rw [if_pos hc1] at hf
    refine t_jF (rfl : mfetch 169 11 = some (11, .ifCond .ne 5, 3, 0, 0, 0)) (k_ne' hc1) ?_
    refine mEnds.stp 1 (pc' := 15) (l' := [some (.ref 10), some (.int x1), none]) (st' := [.int (-1)]) (fun _ => rfl) ?_
    exact mEnds.rti (Option.some.inj hf) (fun _ => rfl)
  · rw [if_neg hc1] at hf
    refine t_jT (t := 16) (rfl : mfetch 169 11 = some (11, .ifCond .ne 5, 3, 0, 0, 0)) rfl (k_ne hc1) ?_
    refine mEnds.stp 1 (pc' := 17) (l' := [some (.ref 10), some (.int x1), none]) (st' := [.ref 10]) (fun _ => rfl) ?_
    refine t_gi (rfl : mfetch 169 17 = some (17, .getfield 142, 3, 5, 22, 0)) rfl rfl ?_
    refine mEnds.stp 3 (pc' := 23) (l' := [some (.ref 10), some (.int x1), some (.int (s 10 22))]) (st' := [.int x1, .ref 10]) (fun _ => rfl) ?_
    obtain ⟨s1, hs1, hf⟩ := ob hf
    refine t_pi (rfl : mfetch 169 23 = some (23, .putfield 142, 3, 5, 22, 0)) rfl rfl rfl rfl hs1 ?_
    refine mEnds.stp 1 (pc' := 27) (l' := [some (.ref 10), some (.int x1), some (.int (s 10 22))]) (st' := [.int (s 10 22)]) (fun _ => rfl) ?_
    exact mEnds.rti (Option.some.inj hf) (fun _ => rfl)
def M_isAsSeen_127 (k12 : Int32 → Int32 → sg → Option (Int32 × sg)) (k67 : Int32 → Int32 → sg → Option (Int32 × sg)) (x1 : Int32) (x3 : Int32) (x4 : Int32) (s : sg) : Option (Int32 × sg) :=
  k67 (nI 1) (x4 + (nI 1)) s
set_option maxRecDepth 100000 in
theorem ok_M_isAsSeen_127 {k12 : Int32 → Int32 → sg → Option (Int32 × sg)} {k67 : Int32 → Int32 → sg → Option (Int32 × sg)} {x1 : Int32} {x3 : Int32} {x4 : Int32} {s : sg} {rv : (Int32 × sg)} (hk12 : ∀ (x2 : Int32) (x3 : Int32) (s : sg) (rv : (Int32 × sg)), k12 x2 x3 s = some rv → mEnds [] 4 170 (12, [some (.ref 10), some (.int x1), some (.int x2), some (.int x3), none], [], hp shM s, 0, 0) (some (.int rv.1), hp shM rv.2, 0, 0)) (hk67 : ∀ (x2 : Int32) (x4 : Int32) (s : sg) (rv : (Int32 × sg)), k67 x2 x4 s = some rv → mEnds [] 4 170 (67, [some (.ref 10), some (.int x1), some (.int x2), some (.int x3), some (.int x4)], [], hp shM s, 0, 0) (some (.int rv.1), hp shM rv.2, 0, 0)) (hf : M_isAsSeen_127 k12 k67 x1 x3 x4 s = some rv) : mEnds [] 4 170 (127, [some (.ref 10), some (.int x1), none, some (.int x3), some (.int x4)], [], hp shM s, 0, 0) (some (.int rv.1), hp shM rv.2, 0, 0) := by
  unfold M_isAsSeen_127 at hf
  refine mEnds.stp 5 (pc' := 67) (l' := [some (.ref 10), some (.int x1), some (.int (nI 1)), some (.int x3), some (.int (x4 + (nI 1)))]) (st' := []) (fun _ => rfl) ?_
  refine mEnds.cut (l := [some (.ref 10), some (.int x1), some (.int (nI 1)), some (.int x3), some (.int (x4 + (nI 1)))]) ⟨rfl, ⟨rfl, ⟨rfl, ⟨rfl, ⟨rfl, trivial⟩⟩⟩⟩⟩ ?_
  exact hk67 (nI 1) (x4 + (nI 1)) s _ hf
def M_isAsSeen_67 (k12 : Int32 → Int32 → sg → Option (Int32 × sg)) (x1 : Int32) (x3 : Int32) : Nat → Int32 → Int32 → sg → Option (Int32 × sg)
  | 0, _, _, _ => none
  | fu + 1, x2, x4, s =>
  if x4 < s 10 22 then
    if x2 = 0 then
      M_isAsSeen_67 k12 x1 x3 fu (nI 0) (x4 + (nI 1)) s
    else
      (midx ((nI 3) * x4) 18).bind fun j1 =>
      if s 17 j1 = x3 then
        (midx (((nI 3) * x4) + (nI 1)) 18).bind fun j2 =>
        (midx ((nI 208) + (s 17 j2)) 312).bind fun j3 =>
        (midx (((nI 3) * x4) + (nI 2)) 18).bind fun j4 =>
        if s 11 j3 = s 17 j4 then
          M_isAsSeen_127 k12 (M_isAsSeen_67 k12 x1 x3 fu) x1 x3 x4 s
        else
          M_isAsSeen_67 k12 x1 x3 fu (nI 0) (x4 + (nI 1)) s
      else
        M_isAsSeen_127 k12 (M_isAsSeen_67 k12 x1 x3 fu) x1 x3 x4 s
  else
    (M_goesOn (nI 208) s).bind fun s1 =>
    k12 x2 (x3 + (nI 1)) s1
set_option maxRecDepth 100000 in
theorem ok_M_isAsSeen_67 {k12 : Int32 → Int32 → sg → Option (Int32 × sg)} {x1 : Int32} {x3 : Int32} (hk12 : ∀ (x2 : Int32) (x3 : Int32) (s : sg) (rv : (Int32 × sg)), k12 x2 x3 s = some rv → mEnds [] 4 170 (12, [some (.ref 10), some (.int x1), some (.int x2), some (.int x3), none], [], hp shM s, 0, 0) (some (.int rv.1), hp shM rv.2, 0, 0)) : ∀ (fu : Nat) (x2 : Int32) (x4 : Int32) (s : sg) (rv : (Int32 × sg)), M_isAsSeen_67 k12 x1 x3 fu x2 x4 s = some rv → mEnds [] 4 170 (67, [some (.ref 10), some (.int x1), some (.int x2), some (.int x3), some (.int x4)], [], hp shM s, 0, 0) (some (.int rv.1), hp shM rv.2, 0, 0)
  | 0, _, _, _, _, hf => by cases hf
  | fu + 1, x2, x4, s, rv, hf => by
    rw [M_isAsSeen_67] at hf
    refine mEnds.stp 2 (pc' := 70) (l' := [some (.ref 10), some (.int x1), some (.int x2), some (.int x3), some (.int x4)]) (st' := [.ref 10, .int x4]) (fun _ => rfl) ?_
    refine t_gi (rfl : mfetch 170 70 = some (70, .getfield 142, 3, 5, 22, 0)) rfl rfl ?_
    by_cases hc1 : x4 < s 10 22
    · rw [if_pos hc1] at hf
      refine t_cF (rfl : mfetch 170 73 = some (73, .if_icmp .ge 66, 3, 0, 0, 0)) (k_ge' hc1) ?_
      refine mEnds.stp 1 (pc' := 77) (l' := [some (.ref 10), some (.int x1), some (.int x2), some (.int x3), some (.int x4)]) (st' := [.int x2]) (fun _ => rfl) ?_
      by_cases hc2 : x2 = 0
      · rw [if_pos hc2] at hf
        refine t_jT (t := 131) (rfl : mfetch 170 77 = some (77, .ifCond .eq 54, 3, 0, 0, 0)) rfl (k_eq hc2) ?_
        refine mEnds.stp 4 (pc' := 67) (l' := [some (.ref 10), some (.int x1), some (.int (nI 0)), some (.int x3), some (.int (x4 + (nI 1)))]) (st' := []) (fun _ => rfl) ?_
        refine mEnds.cut (l := [some (.ref 10), some (.int x1), some (.int (nI 0)), some (.int x3), some (.int (x4 + (nI 1)))]) ⟨rfl, ⟨rfl, ⟨rfl, ⟨rfl, ⟨rfl, trivial⟩⟩⟩⟩⟩ ?_
        exact ok_M_isAsSeen_67 hk12 fu (nI 0) (x4 + (nI 1)) s _ hf
      · rw [if_neg hc2] at hf
        refine t_jF (rfl : mfetch 170 77 = some (77, .ifCond .eq 54, 3, 0, 0, 0)) (k_eq' hc2) ?_
        refine mEnds.stp 1 (pc' := 81) (l' := [some (.ref 10), some (.int x1), some (.int x2), some (.int x3), some (.int x4)]) (st' := [.ref 10]) (fun _ => rfl) ?_
        refine t_gr (rfl : mfetch 170 81 = some (81, .getfield 28, 3, 5, 21, 0)) rfl rfl ?_
        refine mEnds.stp 3 (pc' := 88) (l' := [some (.ref 10), some (.int x1), some (.int x2), some (.int x3), some (.int x4)]) (st' := [.int ((nI 3) * x4), .ref 17]) (fun _ => rfl) ?_
        obtain ⟨j1, hj1, hf⟩ := ob hf
        refine t_ia (rfl : mfetch 170 88 = some (88, .iaload, 1, 0, 0, 0)) rfl rfl hj1 ?_
        refine mEnds.stp 1 (pc' := 90) (l' := [some (.ref 10), some (.int x1), some (.int x2), some (.int x3), some (.int x4)]) (st' := [.int x3, .int (s 17 j1)]) (fun _ => rfl) ?_
        by_cases hc3 : s 17 j1 = x3
        · rw [if_pos hc3] at hf
          refine t_cF (rfl : mfetch 170 90 = some (90, .if_icmp .ne 37, 3, 0, 0, 0)) (k_ne' hc3) ?_
          refine mEnds.stp 1 (pc' := 94) (l' := [some (.ref 10), some (.int x1), some (.int x2), some (.int x3), some (.int x4)]) (st' := [.ref 10]) (fun _ => rfl) ?_
          refine t_gr (rfl : mfetch 170 94 = some (94, .getfield 7, 3, 5, 0, 0)) rfl rfl ?_
          refine mEnds.stp 2 (pc' := 101) (l' := [some (.ref 10), some (.int x1), some (.int x2), some (.int x3), some (.int x4)]) (st' := [.ref 10, .int (nI 208), .ref 11]) (fun _ => rfl) ?_
          refine t_gr (rfl : mfetch 170 101 = some (101, .getfield 28, 3, 5, 21, 0)) rfl rfl ?_
          refine mEnds.stp 5 (pc' := 110) (l' := [some (.ref 10), some (.int x1), some (.int x2), some (.int x3), some (.int x4)]) (st' := [.int (((nI 3) * x4) + (nI 1)), .ref 17, .int (nI 208), .ref 11]) (fun _ => rfl) ?_
          obtain ⟨j2, hj2, hf⟩ := ob hf
          refine t_ia (rfl : mfetch 170 110 = some (110, .iaload, 1, 0, 0, 0)) rfl rfl hj2 ?_
          refine mEnds.stp 1 (pc' := 112) (l' := [some (.ref 10), some (.int x1), some (.int x2), some (.int x3), some (.int x4)]) (st' := [.int ((nI 208) + (s 17 j2)), .ref 11]) (fun _ => rfl) ?_
          obtain ⟨j3, hj3, hf⟩ := ob hf
          refine t_ia (rfl : mfetch 170 112 = some (112, .iaload, 1, 0, 0, 0)) rfl rfl hj3 ?_
          refine mEnds.stp 1 (pc' := 114) (l' := [some (.ref 10), some (.int x1), some (.int x2), some (.int x3), some (.int x4)]) (st' := [.ref 10, .int (s 11 j3)]) (fun _ => rfl) ?_
          refine t_gr (rfl : mfetch 170 114 = some (114, .getfield 28, 3, 5, 21, 0)) rfl rfl ?_
          refine mEnds.stp 5 (pc' := 123) (l' := [some (.ref 10), some (.int x1), some (.int x2), some (.int x3), some (.int x4)]) (st' := [.int (((nI 3) * x4) + (nI 2)), .ref 17, .int (s 11 j3)]) (fun _ => rfl) ?_
          obtain ⟨j4, hj4, hf⟩ := ob hf
          refine t_ia (rfl : mfetch 170 123 = some (123, .iaload, 1, 0, 0, 0)) rfl rfl hj4 ?_
          by_cases hc4 : s 11 j3 = s 17 j4
          · rw [if_pos hc4] at hf
            refine t_cF (rfl : mfetch 170 124 = some (124, .if_icmp .ne 7, 3, 0, 0, 0)) (k_ne' hc4) ?_
            refine mEnds.cut (l := [some (.ref 10), some (.int x1), none, some (.int x3), some (.int x4)]) ⟨rfl, ⟨rfl, ⟨rfl, ⟨rfl, trivial⟩⟩⟩⟩ ?_
            exact ok_M_isAsSeen_127 hk12 (ok_M_isAsSeen_67 hk12 fu) hf
          · rw [if_neg hc4] at hf
            refine t_cT (t := 131) (rfl : mfetch 170 124 = some (124, .if_icmp .ne 7, 3, 0, 0, 0)) rfl (k_ne hc4) ?_
            refine mEnds.stp 4 (pc' := 67) (l' := [some (.ref 10), some (.int x1), some (.int (nI 0)), some (.int x3), some (.int (x4 + (nI 1)))]) (st' := []) (fun _ => rfl) ?_
            refine mEnds.cut (l := [some (.ref 10), some (.int x1), some (.int (nI 0)), some (.int x3), some (.int (x4 + (nI 1)))]) ⟨rfl, ⟨rfl, ⟨rfl, ⟨rfl, ⟨rfl, trivial⟩⟩⟩⟩⟩ ?_
            exact ok_M_isAsSeen_67 hk12 fu (nI 0) (x4 + (nI 1)) s _ hf
        · rw [if_neg hc3] at hf
          refine t_cT (t := 127) (rfl : mfetch 170 90 = some (90, .if_icmp .ne 37, 3, 0, 0, 0)) rfl (k_ne hc3) ?_
          refine mEnds.cut (l := [some (.ref 10), some (.int x1), none, some (.int x3), some (.int x4)]) ⟨rfl, ⟨rfl, ⟨rfl, ⟨rfl, trivial⟩⟩⟩⟩ ?_
          exact ok_M_isAsSeen_127 hk12 (ok_M_isAsSeen_67 hk12 fu) hf
    · rw [if_neg hc1] at hf
      refine t_cT (t := 139) (rfl : mfetch 170 73 = some (73, .if_icmp .ge 66, 3, 0, 0, 0)) rfl (k_ge hc1) ?_
      refine mEnds.stp 2 (pc' := 143) (l' := [some (.ref 10), some (.int x1), some (.int x2), some (.int x3), some (.int x4)]) (st' := [.int (nI 208), .ref 10]) (fun _ => rfl) ?_
      obtain ⟨s1, hs1, hf⟩ := ob hf
      refine t_cv (as := [.int (nI 208)]) (st := []) (rfl : mfetch 170 143 = some (143, .invokevirtual 198, 3, 134, 0, 0)) rfl rfl rfl rfl rfl (ok_M_goesOn hs1) ?_
      refine mEnds.stp 2 (pc' := 12) (l' := [some (.ref 10), some (.int x1), some (.int x2), some (.int (x3 + (nI 1))), some (.int x4)]) (st' := []) (fun _ => rfl) ?_
      refine mEnds.cut (l := [some (.ref 10), some (.int x1), some (.int x2), some (.int (x3 + (nI 1))), none]) ⟨rfl, ⟨rfl, ⟨rfl, ⟨rfl, trivial⟩⟩⟩⟩ ?_
      exact hk12 x2 (x3 + (nI 1)) s1 _ hf
def M_isAsSeen_21 (k12 : Int32 → Int32 → sg → Option (Int32 × sg)) (x1 : Int32) (x2 : Int32) (x3 : Int32) : Nat → Int32 → sg → Option (Int32 × sg)
  | 0, _, _ => none
  | fu + 1, x4, s =>
  if x4 < s 10 1 then
    (midx ((nI 208) + x4) 312).bind fun j1 =>
    (midx ((((nI 126) * x1) + ((nI 6) * x3)) + x4) 1260).bind fun j2 =>
    (some (up s 18 j2 (s 11 j1))).bind fun s1 =>
    M_isAsSeen_21 k12 x1 x2 x3 fu (x4 + (nI 1)) s1
  else
    M_isAsSeen_67 k12 x1 x3 FU x2 (nI 0) s
set_option maxRecDepth 100000 in
theorem ok_M_isAsSeen_21 {k12 : Int32 → Int32 → sg → Option (Int32 × sg)} {x1 : Int32} {x2 : Int32} {x3 : Int32} (hk12 : ∀ (x2 : Int32) (x3 : Int32) (s : sg) (rv : (Int32 × sg)), k12 x2 x3 s = some rv → mEnds [] 4 170 (12, [some (.ref 10), some (.int x1), some (.int x2), some (.int x3), none], [], hp shM s, 0, 0) (some (.int rv.1), hp shM rv.2, 0, 0)) : ∀ (fu : Nat) (x4 : Int32) (s : sg) (rv : (Int32 × sg)), M_isAsSeen_21 k12 x1 x2 x3 fu x4 s = some rv → mEnds [] 4 170 (21, [some (.ref 10), some (.int x1), some (.int x2), some (.int x3), some (.int x4)], [], hp shM s, 0, 0) (some (.int rv.1), hp shM rv.2, 0, 0)
  | 0, _, _, _, hf => by cases hf
  | fu + 1, x4, s, rv, hf => by
    rw [M_isAsSeen_21] at hf
    refine mEnds.stp 2 (pc' := 24) (l' := [some (.ref 10), some (.int x1), some (.int x2), some (.int x3), some (.int x4)]) (st' := [.ref 10, .int x4]) (fun _ => rfl) ?_
    refine t_gi (rfl : mfetch 170 24 = some (24, .getfield 139, 3, 5, 1, 0)) rfl rfl ?_
    by_cases hc1 : x4 < s 10 1
    · rw [if_pos hc1] at hf
      refine t_cF (rfl : mfetch 170 27 = some (27, .if_icmp .ge 37, 3, 0, 0, 0)) (k_ge' hc1) ?_
      refine mEnds.stp 1 (pc' := 31) (l' := [some (.ref 10), some (.int x1), some (.int x2), some (.int x3), some (.int x4)]) (st' := [.ref 10]) (fun _ => rfl) ?_
      refine t_gr (rfl : mfetch 170 31 = some (31, .getfield 31, 3, 5, 23, 0)) rfl rfl ?_
      refine mEnds.stp 10 (pc' := 47) (l' := [some (.ref 10), some (.int x1), some (.int x2), some (.int x3), some (.int x4)]) (st' := [.ref 10, .int ((((nI 126) * x1) + ((nI 6) * x3)) + x4), .ref 18]) (fun _ => rfl) ?_
      refine t_gr (rfl : mfetch 170 47 = some (47, .getfield 7, 3, 5, 0, 0)) rfl rfl ?_
      refine mEnds.stp 3 (pc' := 56) (l' := [some (.ref 10), some (.int x1), some (.int x2), some (.int x3), some (.int x4)]) (st' := [.int ((nI 208) + x4), .ref 11, .int ((((nI 126) * x1) + ((nI 6) * x3)) + x4), .ref 18]) (fun _ => rfl) ?_
      obtain ⟨j1, hj1, hf⟩ := ob hf
      refine t_ia (rfl : mfetch 170 56 = some (56, .iaload, 1, 0, 0, 0)) rfl rfl hj1 ?_
      obtain ⟨j2, hj2, hf⟩ := ob hf
      obtain ⟨s1, hs1, hf⟩ := ob hf
      refine t_is (rfl : mfetch 170 57 = some (57, .iastore, 1, 0, 0, 0)) rfl rfl hj2 hs1 ?_
      refine mEnds.stp 2 (pc' := 21) (l' := [some (.ref 10), some (.int x1), some (.int x2), some (.int x3), some (.int (x4 + (nI 1)))]) (st' := []) (fun _ => rfl) ?_
      refine mEnds.cut (l := [some (.ref 10), some (.int x1), some (.int x2), some (.int x3), some (.int (x4 + (nI 1)))]) ⟨rfl, ⟨rfl, ⟨rfl, ⟨rfl, ⟨rfl, trivial⟩⟩⟩⟩⟩ ?_
      exact ok_M_isAsSeen_21 hk12 fu (x4 + (nI 1)) s1 _ hf
    · rw [if_neg hc1] at hf
      refine t_cT (t := 64) (rfl : mfetch 170 27 = some (27, .if_icmp .ge 37, 3, 0, 0, 0)) rfl (k_ge hc1) ?_
      refine mEnds.stp 2 (pc' := 67) (l' := [some (.ref 10), some (.int x1), some (.int x2), some (.int x3), some (.int (nI 0))]) (st' := []) (fun _ => rfl) ?_
      refine mEnds.cut (l := [some (.ref 10), some (.int x1), some (.int x2), some (.int x3), some (.int (nI 0))]) ⟨rfl, ⟨rfl, ⟨rfl, ⟨rfl, ⟨rfl, trivial⟩⟩⟩⟩⟩ ?_
      exact ok_M_isAsSeen_67 hk12 FU x2 (nI 0) s _ hf
def M_isAsSeen_12 (x1 : Int32) : Nat → Int32 → Int32 → sg → Option (Int32 × sg)
  | 0, _, _, _ => none
  | fu + 1, x2, x3, s =>
  if nI 20 < x3 then
    if x2 = 0 ∨ x2 = 1 then some (x2, s) else none
  else
    M_isAsSeen_21 (M_isAsSeen_12 x1 fu) x1 x2 x3 FU (nI 0) s
set_option maxRecDepth 100000 in
theorem ok_M_isAsSeen_12 {x1 : Int32} : ∀ (fu : Nat) (x2 : Int32) (x3 : Int32) (s : sg) (rv : (Int32 × sg)), M_isAsSeen_12 x1 fu x2 x3 s = some rv → mEnds [] 4 170 (12, [some (.ref 10), some (.int x1), some (.int x2), some (.int x3), none], [], hp shM s, 0, 0) (some (.int rv.1), hp shM rv.2, 0, 0)
  | 0, _, _, _, _, hf => by cases hf
  | fu + 1, x2, x3, s, rv, hf => by
    rw [M_isAsSeen_12] at hf
    refine mEnds.stp 2 (pc' := 15) (l' := [some (.ref 10), some (.int x1), some (.int x2), some (.int x3), none]) (st' := [.int (nI 20), .int x3]) (fun _ => rfl) ?_
    by_cases hc1 : nI 20 < x3
    · rw [if_pos hc1] at hf
      refine t_cT (t := 152) (rfl : mfetch 170 15 = some (15, .if_icmp .gt 137, 3, 0, 0, 0)) rfl (k_gt hc1) ?_
      refine mEnds.stp 1 (pc' := 153) (l' := [some (.ref 10), some (.int x1), some (.int x2), some (.int x3), none]) (st' := [.int x2]) (fun _ => rfl) ?_
      by_cases hc2 : x2 = 0 ∨ x2 = 1
      · rw [if_pos hc2] at hf; cases Option.some.inj hf; exact t_zr (rfl : mfetch 170 153 = some (153, .ireturn, 1, 0, 0, 0)) rfl hc2
      · rw [if_neg hc2] at hf; cases hf
    · rw [if_neg hc1] at hf
      refine t_cF (rfl : mfetch 170 15 = some (15, .if_icmp .gt 137, 3, 0, 0, 0)) (k_gt' hc1) ?_
      refine mEnds.stp 2 (pc' := 21) (l' := [some (.ref 10), some (.int x1), some (.int x2), some (.int x3), some (.int (nI 0))]) (st' := []) (fun _ => rfl) ?_
      refine mEnds.cut (l := [some (.ref 10), some (.int x1), some (.int x2), some (.int x3), some (.int (nI 0))]) ⟨rfl, ⟨rfl, ⟨rfl, ⟨rfl, ⟨rfl, trivial⟩⟩⟩⟩⟩ ?_
      exact ok_M_isAsSeen_21 (ok_M_isAsSeen_12 fu) FU (nI 0) s _ hf
def M_isAsSeen (x1 : Int32) (s : sg) : Option (Int32 × sg) :=
  (M_copies (nI 0) (nI 208) s).bind fun s1 =>
  M_isAsSeen_12 x1 FU (nI 1) (nI 0) s1
set_option maxRecDepth 100000 in
theorem ok_M_isAsSeen {x1 : Int32} {s : sg} {rv : (Int32 × sg)} (hf : M_isAsSeen x1 s = some rv) : mEnds [] 4 170 (0, [some (.ref 10), some (.int x1), none, none, none], [], hp shM s, 0, 0) (some (.int rv.1), hp shM rv.2, 0, 0) := by
  unfold M_isAsSeen at hf
  refine mEnds.stp 3 (pc' := 5) (l' := [some (.ref 10), some (.int x1), none, none, none]) (st' := [.int (nI 208), .int (nI 0), .ref 10]) (fun _ => rfl) ?_
  obtain ⟨s1, hs1, hf⟩ := ob hf
  refine t_cv (as := [.int (nI 0), .int (nI 208)]) (st := []) (rfl : mfetch 170 5 = some (5, .invokevirtual 201, 3, 152, 0, 0)) rfl rfl rfl rfl rfl ((ok_M_copies hs1).deep 3) ?_
  refine mEnds.stp 4 (pc' := 12) (l' := [some (.ref 10), some (.int x1), some (.int (nI 1)), some (.int (nI 0)), none]) (st' := []) (fun _ => rfl) ?_
  refine mEnds.cut (l := [some (.ref 10), some (.int x1), some (.int (nI 1)), some (.int (nI 0)), none]) ⟨rfl, ⟨rfl, ⟨rfl, ⟨rfl, trivial⟩⟩⟩⟩ ?_
  exact ok_M_isAsSeen_12 FU (nI 1) (nI 0) s1 _ hf
end Q31g
section Q31h
def M_numbersAt_14 (x1 : Int32) (x2 : Int32) (x3 : Int32) (x4 : Int32) : Nat → Int32 → Int32 → sg → Option (Int32 × sg)
  | 0, _, _, _ => none
  | fu + 1, x5, x6, s =>
  if x6 < x3 then
    (midx x1 312).bind fun j2 =>
    (some (up s 11 j2 (x2 + x6))).bind fun s2 =>
    (M_isAsSeen x6 s2).bind fun v1 =>
    if v1.1 = 0 then
      M_numbersAt_14 x1 x2 x3 x4 fu (x5 ||| (nI 0)) (x6 + (nI 1)) v1.2
    else
      M_numbersAt_14 x1 x2 x3 x4 fu (x5 ||| ((nI 1) <<< (x6 &&& 31))) (x6 + (nI 1)) v1.2
  else
    (midx x1 312).bind fun j1 =>
    (some (up s 11 j1 x4)).bind fun s1 =>
    some (x5, s1)
set_option maxRecDepth 100000 in
theorem ok_M_numbersAt_14 {x1 : Int32} {x2 : Int32} {x3 : Int32} {x4 : Int32} : ∀ (fu : Nat) (x5 : Int32) (x6 : Int32) (s : sg) (rv : (Int32 × sg)), M_numbersAt_14 x1 x2 x3 x4 fu x5 x6 s = some rv → mEnds [] 5 171 (14, [some (.ref 10), some (.int x1), some (.int x2), some (.int x3), some (.int x4), some (.int x5), some (.int x6)], [], hp shM s, 0, 0) (some (.int rv.1), hp shM rv.2, 0, 0)
  | 0, _, _, _, _, hf => by cases hf
  | fu + 1, x5, x6, s, rv, hf => by
    rw [M_numbersAt_14] at hf
    refine mEnds.stp 2 (pc' := 17) (l' := [some (.ref 10), some (.int x1), some (.int x2), some (.int x3), some (.int x4), some (.int x5), some (.int x6)]) (st' := [.int x3, .int x6]) (fun _ => rfl) ?_
    by_cases hc1 : x6 < x3
    · rw [if_pos hc1] at hf
      refine t_cF (rfl : mfetch 171 17 = some (17, .if_icmp .ge 41, 3, 0, 0, 0)) (k_ge' hc1) ?_
      refine mEnds.stp 1 (pc' := 21) (l' := [some (.ref 10), some (.int x1), some (.int x2), some (.int x3), some (.int x4), some (.int x5), some (.int x6)]) (st' := [.ref 10]) (fun _ => rfl) ?_
      refine t_gr (rfl : mfetch 171 21 = some (21, .getfield 7, 3, 5, 0, 0)) rfl rfl ?_
      refine mEnds.stp 4 (pc' := 29) (l' := [some (.ref 10), some (.int x1), some (.int x2), some (.int x3), some (.int x4), some (.int x5), some (.int x6)]) (st' := [.int (x2 + x6), .int x1, .ref 11]) (fun _ => rfl) ?_
      obtain ⟨j2, hj2, hf⟩ := ob hf
      obtain ⟨s2, hs2, hf⟩ := ob hf
      refine t_is (rfl : mfetch 171 29 = some (29, .iastore, 1, 0, 0, 0)) rfl rfl hj2 hs2 ?_
      refine mEnds.stp 3 (pc' := 35) (l' := [some (.ref 10), some (.int x1), some (.int x2), some (.int x3), some (.int x4), some (.int x5), some (.int x6)]) (st' := [.int x6, .ref 10, .int x5]) (fun _ => rfl) ?_
      obtain ⟨v1, hv1, hf⟩ := ob hf
      refine t_cv (as := [.int x6]) (st := [.int x5]) (rfl : mfetch 171 35 = some (35, .invokevirtual 239, 3, 170, 0, 0)) rfl rfl rfl rfl rfl (ok_M_isAsSeen hv1) ?_
      by_cases hc2 : v1.1 = 0
      · rw [if_pos hc2] at hf
        refine t_jT (t := 48) (rfl : mfetch 171 38 = some (38, .ifCond .eq 10, 3, 0, 0, 0)) rfl (k_eq hc2) ?_
        refine mEnds.stp 5 (pc' := 14) (l' := [some (.ref 10), some (.int x1), some (.int x2), some (.int x3), some (.int x4), some (.int (x5 ||| (nI 0))), some (.int (x6 + (nI 1)))]) (st' := []) (fun _ => rfl) ?_
        refine mEnds.cut (l := [some (.ref 10), some (.int x1), some (.int x2), some (.int x3), some (.int x4), some (.int (x5 ||| (nI 0))), some (.int (x6 + (nI 1)))]) ⟨rfl, ⟨rfl, ⟨rfl, ⟨rfl, ⟨rfl, ⟨rfl, ⟨rfl, trivial⟩⟩⟩⟩⟩⟩⟩ ?_
        exact ok_M_numbersAt_14 fu (x5 ||| (nI 0)) (x6 + (nI 1)) v1.2 _ hf
      · rw [if_neg hc2] at hf
        refine t_jF (rfl : mfetch 171 38 = some (38, .ifCond .eq 10, 3, 0, 0, 0)) (k_eq' hc2) ?_
        refine mEnds.stp 8 (pc' := 14) (l' := [some (.ref 10), some (.int x1), some (.int x2), some (.int x3), some (.int x4), some (.int (x5 ||| ((nI 1) <<< (x6 &&& 31)))), some (.int (x6 + (nI 1)))]) (st' := []) (fun _ => rfl) ?_
        refine mEnds.cut (l := [some (.ref 10), some (.int x1), some (.int x2), some (.int x3), some (.int x4), some (.int (x5 ||| ((nI 1) <<< (x6 &&& 31)))), some (.int (x6 + (nI 1)))]) ⟨rfl, ⟨rfl, ⟨rfl, ⟨rfl, ⟨rfl, ⟨rfl, ⟨rfl, trivial⟩⟩⟩⟩⟩⟩⟩ ?_
        exact ok_M_numbersAt_14 fu (x5 ||| ((nI 1) <<< (x6 &&& 31))) (x6 + (nI 1)) v1.2 _ hf
    · rw [if_neg hc1] at hf
      refine t_cT (t := 58) (rfl : mfetch 171 17 = some (17, .if_icmp .ge 41, 3, 0, 0, 0)) rfl (k_ge hc1) ?_
      refine mEnds.stp 1 (pc' := 59) (l' := [some (.ref 10), some (.int x1), some (.int x2), some (.int x3), some (.int x4), some (.int x5), some (.int x6)]) (st' := [.ref 10]) (fun _ => rfl) ?_
      refine t_gr (rfl : mfetch 171 59 = some (59, .getfield 7, 3, 5, 0, 0)) rfl rfl ?_
      refine mEnds.stp 2 (pc' := 65) (l' := [some (.ref 10), some (.int x1), some (.int x2), some (.int x3), some (.int x4), some (.int x5), some (.int x6)]) (st' := [.int x4, .int x1, .ref 11]) (fun _ => rfl) ?_
      obtain ⟨j1, hj1, hf⟩ := ob hf
      obtain ⟨s1, hs1, hf⟩ := ob hf
      refine t_is (rfl : mfetch 171 65 = some (65, .iastore, 1, 0, 0, 0)) rfl rfl hj1 hs1 ?_
      refine mEnds.stp 1 (pc' := 68) (l' := [some (.ref 10), some (.int x1), some (.int x2), some (.int x3), some (.int x4), some (.int x5), some (.int x6)]) (st' := [.int x5]) (fun _ => rfl) ?_
      exact mEnds.rti (Option.some.inj hf) (fun _ => rfl)
def M_numbersAt (x1 : Int32) (x2 : Int32) (x3 : Int32) (s : sg) : Option (Int32 × sg) :=
  (midx x1 312).bind fun j1 =>
  M_numbersAt_14 x1 x2 x3 (s 11 j1) FU (nI 0) (nI 0) s
set_option maxRecDepth 100000 in
theorem ok_M_numbersAt {x1 : Int32} {x2 : Int32} {x3 : Int32} {s : sg} {rv : (Int32 × sg)} (hf : M_numbersAt x1 x2 x3 s = some rv) : mEnds [] 5 171 (0, [some (.ref 10), some (.int x1), some (.int x2), some (.int x3), none, none, none], [], hp shM s, 0, 0) (some (.int rv.1), hp shM rv.2, 0, 0) := by
  unfold M_numbersAt at hf
  refine mEnds.stp 1 (pc' := 1) (l' := [some (.ref 10), some (.int x1), some (.int x2), some (.int x3), none, none, none]) (st' := [.ref 10]) (fun _ => rfl) ?_
  refine t_gr (rfl : mfetch 171 1 = some (1, .getfield 7, 3, 5, 0, 0)) rfl rfl ?_
  refine mEnds.stp 1 (pc' := 5) (l' := [some (.ref 10), some (.int x1), some (.int x2), some (.int x3), none, none, none]) (st' := [.int x1, .ref 11]) (fun _ => rfl) ?_
  obtain ⟨j1, hj1, hf⟩ := ob hf
  refine t_ia (rfl : mfetch 171 5 = some (5, .iaload, 1, 0, 0, 0)) rfl rfl hj1 ?_
  refine mEnds.stp 5 (pc' := 14) (l' := [some (.ref 10), some (.int x1), some (.int x2), some (.int x3), some (.int (s 11 j1)), some (.int (nI 0)), some (.int (nI 0))]) (st' := []) (fun _ => rfl) ?_
  refine mEnds.cut (l := [some (.ref 10), some (.int x1), some (.int x2), some (.int x3), some (.int (s 11 j1)), some (.int (nI 0)), some (.int (nI 0))]) ⟨rfl, ⟨rfl, ⟨rfl, ⟨rfl, ⟨rfl, ⟨rfl, ⟨rfl, trivial⟩⟩⟩⟩⟩⟩⟩ ?_
  exact ok_M_numbersAt_14 FU (nI 0) (nI 0) s _ hf
def M_kinds (x1 : Int32) (s : sg) : Option (Int32 × sg) :=
  (M_isRoom x1 s).bind fun v1 =>
  if v1 = 0 then
    some ((-1), s)
  else
    (M_hasTongue x1 s).bind fun v2 =>
    if v2 = 0 then
      some ((-2), s)
    else
      (M_numbersAt ((nI 18) + x1) (nI 1) (nI 4) s).bind fun v3 =>
      some (v3.1, v3.2)
set_option maxRecDepth 100000 in
theorem ok_M_kinds {x1 : Int32} {s : sg} {rv : (Int32 × sg)} (hf : M_kinds x1 s = some rv) : mEnds [] 6 172 (0, [some (.ref 10), some (.int x1)], [], hp shM s, 0, 0) (some (.int rv.1), hp shM rv.2, 0, 0) := by
  unfold M_kinds at hf
  refine mEnds.stp 2 (pc' := 2) (l' := [some (.ref 10), some (.int x1)]) (st' := [.int x1, .ref 10]) (fun _ => rfl) ?_
  obtain ⟨v1, hv1, hf⟩ := ob hf
  refine t_cv (as := [.int x1]) (st := []) (rfl : mfetch 172 2 = some (2, .invokevirtual 167, 3, 126, 0, 0)) rfl rfl rfl rfl rfl ((ok_M_isRoom hv1).deep 4) ?_
  by_cases hc1 : v1 = 0
  · rw [if_pos hc1] at hf
    refine t_jF (rfl : mfetch 172 5 = some (5, .ifCond .ne 5, 3, 0, 0, 0)) (k_ne' hc1) ?_
    refine mEnds.stp 1 (pc' := 9) (l' := [some (.ref 10), some (.int x1)]) (st' := [.int (-1)]) (fun _ => rfl) ?_
    exact mEnds.rti (Option.some.inj hf) (fun _ => rfl)
  · rw [if_neg hc1] at hf
    refine t_jT (t := 10) (rfl : mfetch 172 5 = some (5, .ifCond .ne 5, 3, 0, 0, 0)) rfl (k_ne hc1) ?_
    refine mEnds.stp 2 (pc' := 12) (l' := [some (.ref 10), some (.int x1)]) (st' := [.int x1, .ref 10]) (fun _ => rfl) ?_
    obtain ⟨v2, hv2, hf⟩ := ob hf
    refine t_cv (as := [.int x1]) (st := []) (rfl : mfetch 172 12 = some (12, .invokevirtual 173, 3, 128, 0, 0)) rfl rfl rfl rfl rfl ((ok_M_hasTongue hv2).deep 5) ?_
    by_cases hc2 : v2 = 0
    · rw [if_pos hc2] at hf
      refine t_jT (t := 31) (rfl : mfetch 172 15 = some (15, .ifCond .eq 16, 3, 0, 0, 0)) rfl (k_eq hc2) ?_
      refine mEnds.stp 1 (pc' := 33) (l' := [some (.ref 10), some (.int x1)]) (st' := [.int (-2)]) (fun _ => rfl) ?_
      exact mEnds.rti (Option.some.inj hf) (fun _ => rfl)
    · rw [if_neg hc2] at hf
      refine t_jF (rfl : mfetch 172 15 = some (15, .ifCond .eq 16, 3, 0, 0, 0)) (k_eq' hc2) ?_
      refine mEnds.stp 6 (pc' := 25) (l' := [some (.ref 10), some (.int x1)]) (st' := [.int (nI 4), .int (nI 1), .int ((nI 18) + x1), .ref 10]) (fun _ => rfl) ?_
      obtain ⟨v3, hv3, hf⟩ := ob hf
      refine t_cv (as := [.int ((nI 18) + x1), .int (nI 1), .int (nI 4)]) (st := []) (rfl : mfetch 172 25 = some (25, .invokevirtual 242, 3, 171, 0, 0)) rfl rfl rfl rfl rfl (ok_M_numbersAt hv3) ?_
      refine mEnds.stp 1 (pc' := 33) (l' := [some (.ref 10), some (.int x1)]) (st' := [.int v3.1]) (fun _ => rfl) ?_
      exact mEnds.rti (Option.some.inj hf) (fun _ => rfl)
def M_lets (x1 : Int32) (s : sg) : Option (Int32 × sg) :=
  (M_isWall x1 s).bind fun v1 =>
  if v1 = 0 then
    some ((-1), s)
  else
    (M_numbersAt ((nI 36) + x1) (-2) (nI 10) s).bind fun v2 =>
    some (v2.1, v2.2)
set_option maxRecDepth 100000 in
theorem ok_M_lets {x1 : Int32} {s : sg} {rv : (Int32 × sg)} (hf : M_lets x1 s = some rv) : mEnds [] 6 173 (0, [some (.ref 10), some (.int x1)], [], hp shM s, 0, 0) (some (.int rv.1), hp shM rv.2, 0, 0) := by
  unfold M_lets at hf
  refine mEnds.stp 2 (pc' := 2) (l' := [some (.ref 10), some (.int x1)]) (st' := [.int x1, .ref 10]) (fun _ => rfl) ?_
  obtain ⟨v1, hv1, hf⟩ := ob hf
  refine t_cv (as := [.int x1]) (st := []) (rfl : mfetch 173 2 = some (2, .invokevirtual 176, 3, 127, 0, 0)) rfl rfl rfl rfl rfl ((ok_M_isWall hv1).deep 4) ?_
  by_cases hc1 : v1 = 0
  · rw [if_pos hc1] at hf
    refine t_jT (t := 23) (rfl : mfetch 173 5 = some (5, .ifCond .eq 18, 3, 0, 0, 0)) rfl (k_eq hc1) ?_
    refine mEnds.stp 1 (pc' := 24) (l' := [some (.ref 10), some (.int x1)]) (st' := [.int (-1)]) (fun _ => rfl) ?_
    exact mEnds.rti (Option.some.inj hf) (fun _ => rfl)
  · rw [if_neg hc1] at hf
    refine t_jF (rfl : mfetch 173 5 = some (5, .ifCond .eq 18, 3, 0, 0, 0)) (k_eq' hc1) ?_
    refine mEnds.stp 6 (pc' := 17) (l' := [some (.ref 10), some (.int x1)]) (st' := [.int (nI 10), .int (-2), .int ((nI 36) + x1), .ref 10]) (fun _ => rfl) ?_
    obtain ⟨v2, hv2, hf⟩ := ob hf
    refine t_cv (as := [.int ((nI 36) + x1), .int (-2), .int (nI 10)]) (st := []) (rfl : mfetch 173 17 = some (17, .invokevirtual 242, 3, 171, 0, 0)) rfl rfl rfl rfl rfl (ok_M_numbersAt hv2) ?_
    refine mEnds.stp 1 (pc' := 24) (l' := [some (.ref 10), some (.int x1)]) (st' := [.int v2.1]) (fun _ => rfl) ?_
    exact mEnds.rti (Option.some.inj hf) (fun _ => rfl)
def M_worstAt_78 (k5 : Int32 → Int32 → Option Int32) (k18 : Int32 → Int32 → Option Int32) (x1 : Int32) (x2 : Int32) (x3 : Int32) (x4 : Int32) (x6 : Int32) (y0 : Int32) (s : sg) : Option Int32 :=
  k18 (y0 + (nI 0)) (x6 + (nI 1))
set_option maxRecDepth 100000 in
theorem ok_M_worstAt_78 {k5 : Int32 → Int32 → Option Int32} {k18 : Int32 → Int32 → Option Int32} {x1 : Int32} {x2 : Int32} {x3 : Int32} {x4 : Int32} {x6 : Int32} {y0 : Int32} {s : sg} {rv : Int32} (hk5 : ∀ (x3 : Int32) (x4 : Int32) (rv : Int32), k5 x3 x4 = some rv → mEnds [] 0 174 (5, [some (.ref 10), some (.int x1), some (.int x2), some (.int x3), some (.int x4), none, none], [], hp shM s, 0, 0) (some (.int rv), hp shM s, 0, 0)) (hk18 : ∀ (x5 : Int32) (x6 : Int32) (rv : Int32), k18 x5 x6 = some rv → mEnds [] 0 174 (18, [some (.ref 10), some (.int x1), some (.int x2), some (.int x3), some (.int x4), some (.int x5), some (.int x6)], [], hp shM s, 0, 0) (some (.int rv), hp shM s, 0, 0)) (hf : M_worstAt_78 k5 k18 x1 x2 x3 x4 x6 y0 s = some rv) : mEnds [] 0 174 (78, [some (.ref 10), some (.int x1), some (.int x2), some (.int x3), some (.int x4), none, some (.int x6)], [.int y0], hp shM s, 0, 0) (some (.int rv), hp shM s, 0, 0) := by
  unfold M_worstAt_78 at hf
  refine mEnds.stp 5 (pc' := 18) (l' := [some (.ref 10), some (.int x1), some (.int x2), some (.int x3), some (.int x4), some (.int (y0 + (nI 0))), some (.int (x6 + (nI 1)))]) (st' := []) (fun _ => rfl) ?_
  refine mEnds.cut (l := [some (.ref 10), some (.int x1), some (.int x2), some (.int x3), some (.int x4), some (.int (y0 + (nI 0))), some (.int (x6 + (nI 1)))]) ⟨rfl, ⟨rfl, ⟨rfl, ⟨rfl, ⟨rfl, ⟨rfl, ⟨rfl, trivial⟩⟩⟩⟩⟩⟩⟩ ?_
  exact hk18 (y0 + (nI 0)) (x6 + (nI 1)) _ hf
def M_worstAt_88 (k5 : Int32 → Int32 → Option Int32) (x1 : Int32) (x2 : Int32) (x3 : Int32) (x4 : Int32) (x5 : Int32) (s : sg) : Option Int32 :=
  if x3 < x5 then
    k5 x5 (x4 + (nI 1))
  else
    k5 x3 (x4 + (nI 1))
set_option maxRecDepth 100000 in
theorem ok_M_worstAt_88 {k5 : Int32 → Int32 → Option Int32} {x1 : Int32} {x2 : Int32} {x3 : Int32} {x4 : Int32} {x5 : Int32} {s : sg} {rv : Int32} (hk5 : ∀ (x3 : Int32) (x4 : Int32) (rv : Int32), k5 x3 x4 = some rv → mEnds [] 0 174 (5, [some (.ref 10), some (.int x1), some (.int x2), some (.int x3), some (.int x4), none, none], [], hp shM s, 0, 0) (some (.int rv), hp shM s, 0, 0)) (hf : M_worstAt_88 k5 x1 x2 x3 x4 x5 s = some rv) : mEnds [] 0 174 (88, [some (.ref 10), some (.int x1), some (.int x2), some (.int x3), some (.int x4), some (.int x5), none], [], hp shM s, 0, 0) (some (.int rv), hp shM s, 0, 0) := by
  unfold M_worstAt_88 at hf
  refine mEnds.stp 2 (pc' := 91) (l' := [some (.ref 10), some (.int x1), some (.int x2), some (.int x3), some (.int x4), some (.int x5), none]) (st' := [.int x3, .int x5]) (fun _ => rfl) ?_
  by_cases hc1 : x3 < x5
  · rw [if_pos hc1] at hf
    refine t_cF (rfl : mfetch 174 91 = some (91, .if_icmp .le 8, 3, 0, 0, 0)) (k_le' hc1) ?_
    refine mEnds.stp 5 (pc' := 5) (l' := [some (.ref 10), some (.int x1), some (.int x2), some (.int x5), some (.int (x4 + (nI 1))), some (.int x5), none]) (st' := []) (fun _ => rfl) ?_
    refine mEnds.cut (l := [some (.ref 10), some (.int x1), some (.int x2), some (.int x5), some (.int (x4 + (nI 1))), none, none]) ⟨rfl, ⟨rfl, ⟨rfl, ⟨rfl, ⟨rfl, trivial⟩⟩⟩⟩⟩ ?_
    exact hk5 x5 (x4 + (nI 1)) _ hf
  · rw [if_neg hc1] at hf
    refine t_cT (t := 99) (rfl : mfetch 174 91 = some (91, .if_icmp .le 8, 3, 0, 0, 0)) rfl (k_le hc1) ?_
    refine mEnds.stp 4 (pc' := 5) (l' := [some (.ref 10), some (.int x1), some (.int x2), some (.int x3), some (.int (x4 + (nI 1))), some (.int x5), none]) (st' := []) (fun _ => rfl) ?_
    refine mEnds.cut (l := [some (.ref 10), some (.int x1), some (.int x2), some (.int x3), some (.int (x4 + (nI 1))), none, none]) ⟨rfl, ⟨rfl, ⟨rfl, ⟨rfl, ⟨rfl, trivial⟩⟩⟩⟩⟩ ?_
    exact hk5 x3 (x4 + (nI 1)) _ hf
def M_worstAt_18 (k5 : Int32 → Int32 → Option Int32) (x1 : Int32) (x2 : Int32) (x3 : Int32) (x4 : Int32) (s : sg) : Nat → Int32 → Int32 → Option Int32
  | 0, _, _ => none
  | fu + 1, x5, x6 =>
  if nI 9 < x6 then
    M_worstAt_88 k5 x1 x2 x3 x4 x5 s
  else
    if (x1 >>> (x4 &&& 31)) &&& (nI 1) = nI 1 then
      if (x1 >>> (x6 &&& 31)) &&& (nI 1) = nI 1 then
        (midx (((nI 126) * x4) + x2) 1260).bind fun j1 =>
        (midx (((nI 126) * x6) + x2) 1260).bind fun j2 =>
        if s 18 j1 = s 18 j2 then
          M_worstAt_18 k5 x1 x2 x3 x4 s fu (x5 + (nI 1)) (x6 + (nI 1))
        else
          M_worstAt_78 k5 (M_worstAt_18 k5 x1 x2 x3 x4 s fu) x1 x2 x3 x4 x6 x5 s
      else
        M_worstAt_78 k5 (M_worstAt_18 k5 x1 x2 x3 x4 s fu) x1 x2 x3 x4 x6 x5 s
    else
      M_worstAt_88 k5 x1 x2 x3 x4 x5 s
set_option maxRecDepth 100000 in
theorem ok_M_worstAt_18 {k5 : Int32 → Int32 → Option Int32} {x1 : Int32} {x2 : Int32} {x3 : Int32} {x4 : Int32} {s : sg} (hk5 : ∀ (x3 : Int32) (x4 : Int32) (rv : Int32), k5 x3 x4 = some rv → mEnds [] 0 174 (5, [some (.ref 10), some (.int x1), some (.int x2), some (.int x3), some (.int x4), none, none], [], hp shM s, 0, 0) (some (.int rv), hp shM s, 0, 0)) : ∀ (fu : Nat) (x5 : Int32) (x6 : Int32) (rv : Int32), M_worstAt_18 k5 x1 x2 x3 x4 s fu x5 x6 = some rv → mEnds [] 0 174 (18, [some (.ref 10), some (.int x1), some (.int x2), some (.int x3), some (.int x4), some (.int x5), some (.int x6)], [], hp shM s, 0, 0) (some (.int rv), hp shM s, 0, 0)
  | 0, _, _, _, hf => by cases hf
  | fu + 1, x5, x6, rv, hf => by
    rw [M_worstAt_18] at hf
    refine mEnds.stp 2 (pc' := 22) (l' := [some (.ref 10), some (.int x1), some (.int x2), some (.int x3), some (.int x4), some (.int x5), some (.int x6)]) (st' := [.int (nI 9), .int x6]) (fun _ => rfl) ?_
    by_cases hc1 : nI 9 < x6
    · rw [if_pos hc1] at hf
      refine t_cT (t := 88) (rfl : mfetch 174 22 = some (22, .if_icmp .gt 66, 3, 0, 0, 0)) rfl (k_gt hc1) ?_
      refine mEnds.cut (l := [some (.ref 10), some (.int x1), some (.int x2), some (.int x3), some (.int x4), some (.int x5), none]) ⟨rfl, ⟨rfl, ⟨rfl, ⟨rfl, ⟨rfl, ⟨rfl, trivial⟩⟩⟩⟩⟩⟩ ?_
      exact ok_M_worstAt_88 hk5 hf
    · rw [if_neg hc1] at hf
      refine t_cF (rfl : mfetch 174 22 = some (22, .if_icmp .gt 66, 3, 0, 0, 0)) (k_gt' hc1) ?_
      refine mEnds.stp 6 (pc' := 32) (l' := [some (.ref 10), some (.int x1), some (.int x2), some (.int x3), some (.int x4), some (.int x5), some (.int x6)]) (st' := [.int (nI 1), .int ((x1 >>> (x4 &&& 31)) &&& (nI 1))]) (fun _ => rfl) ?_
      by_cases hc2 : (x1 >>> (x4 &&& 31)) &&& (nI 1) = nI 1
      · rw [if_pos hc2] at hf
        refine t_cF (rfl : mfetch 174 32 = some (32, .if_icmp .ne 56, 3, 0, 0, 0)) (k_ne' hc2) ?_
        refine mEnds.stp 7 (pc' := 44) (l' := [some (.ref 10), some (.int x1), some (.int x2), some (.int x3), some (.int x4), some (.int x5), some (.int x6)]) (st' := [.int (nI 1), .int ((x1 >>> (x6 &&& 31)) &&& (nI 1)), .int x5]) (fun _ => rfl) ?_
        by_cases hc3 : (x1 >>> (x6 &&& 31)) &&& (nI 1) = nI 1
        · rw [if_pos hc3] at hf
          refine t_cF (rfl : mfetch 174 44 = some (44, .if_icmp .ne 34, 3, 0, 0, 0)) (k_ne' hc3) ?_
          refine mEnds.stp 1 (pc' := 48) (l' := [some (.ref 10), some (.int x1), some (.int x2), some (.int x3), some (.int x4), some (.int x5), some (.int x6)]) (st' := [.ref 10, .int x5]) (fun _ => rfl) ?_
          refine t_gr (rfl : mfetch 174 48 = some (48, .getfield 31, 3, 5, 23, 0)) rfl rfl ?_
          refine mEnds.stp 5 (pc' := 58) (l' := [some (.ref 10), some (.int x1), some (.int x2), some (.int x3), some (.int x4), some (.int x5), some (.int x6)]) (st' := [.int (((nI 126) * x4) + x2), .ref 18, .int x5]) (fun _ => rfl) ?_
          obtain ⟨j1, hj1, hf⟩ := ob hf
          refine t_ia (rfl : mfetch 174 58 = some (58, .iaload, 1, 0, 0, 0)) rfl rfl hj1 ?_
          refine mEnds.stp 1 (pc' := 60) (l' := [some (.ref 10), some (.int x1), some (.int x2), some (.int x3), some (.int x4), some (.int x5), some (.int x6)]) (st' := [.ref 10, .int (s 18 j1), .int x5]) (fun _ => rfl) ?_
          refine t_gr (rfl : mfetch 174 60 = some (60, .getfield 31, 3, 5, 23, 0)) rfl rfl ?_
          refine mEnds.stp 5 (pc' := 70) (l' := [some (.ref 10), some (.int x1), some (.int x2), some (.int x3), some (.int x4), some (.int x5), some (.int x6)]) (st' := [.int (((nI 126) * x6) + x2), .ref 18, .int (s 18 j1), .int x5]) (fun _ => rfl) ?_
          obtain ⟨j2, hj2, hf⟩ := ob hf
          refine t_ia (rfl : mfetch 174 70 = some (70, .iaload, 1, 0, 0, 0)) rfl rfl hj2 ?_
          by_cases hc4 : s 18 j1 = s 18 j2
          · rw [if_pos hc4] at hf
            refine t_cF (rfl : mfetch 174 71 = some (71, .if_icmp .ne 7, 3, 0, 0, 0)) (k_ne' hc4) ?_
            refine mEnds.stp 6 (pc' := 18) (l' := [some (.ref 10), some (.int x1), some (.int x2), some (.int x3), some (.int x4), some (.int (x5 + (nI 1))), some (.int (x6 + (nI 1)))]) (st' := []) (fun _ => rfl) ?_
            refine mEnds.cut (l := [some (.ref 10), some (.int x1), some (.int x2), some (.int x3), some (.int x4), some (.int (x5 + (nI 1))), some (.int (x6 + (nI 1)))]) ⟨rfl, ⟨rfl, ⟨rfl, ⟨rfl, ⟨rfl, ⟨rfl, ⟨rfl, trivial⟩⟩⟩⟩⟩⟩⟩ ?_
            exact ok_M_worstAt_18 hk5 fu (x5 + (nI 1)) (x6 + (nI 1)) _ hf
          · rw [if_neg hc4] at hf
            refine t_cT (t := 78) (rfl : mfetch 174 71 = some (71, .if_icmp .ne 7, 3, 0, 0, 0)) rfl (k_ne hc4) ?_
            refine mEnds.cut (l := [some (.ref 10), some (.int x1), some (.int x2), some (.int x3), some (.int x4), none, some (.int x6)]) ⟨rfl, ⟨rfl, ⟨rfl, ⟨rfl, ⟨rfl, ⟨rfl, trivial⟩⟩⟩⟩⟩⟩ ?_
            exact ok_M_worstAt_78 hk5 (ok_M_worstAt_18 hk5 fu) hf
        · rw [if_neg hc3] at hf
          refine t_cT (t := 78) (rfl : mfetch 174 44 = some (44, .if_icmp .ne 34, 3, 0, 0, 0)) rfl (k_ne hc3) ?_
          refine mEnds.cut (l := [some (.ref 10), some (.int x1), some (.int x2), some (.int x3), some (.int x4), none, some (.int x6)]) ⟨rfl, ⟨rfl, ⟨rfl, ⟨rfl, ⟨rfl, ⟨rfl, trivial⟩⟩⟩⟩⟩⟩ ?_
          exact ok_M_worstAt_78 hk5 (ok_M_worstAt_18 hk5 fu) hf
      · rw [if_neg hc2] at hf
        refine t_cT (t := 88) (rfl : mfetch 174 32 = some (32, .if_icmp .ne 56, 3, 0, 0, 0)) rfl (k_ne hc2) ?_
        refine mEnds.cut (l := [some (.ref 10), some (.int x1), some (.int x2), some (.int x3), some (.int x4), some (.int x5), none]) ⟨rfl, ⟨rfl, ⟨rfl, ⟨rfl, ⟨rfl, ⟨rfl, trivial⟩⟩⟩⟩⟩⟩ ?_
        exact ok_M_worstAt_88 hk5 hf
def M_worstAt_5 (x1 : Int32) (x2 : Int32) (s : sg) : Nat → Int32 → Int32 → Option Int32
  | 0, _, _ => none
  | fu + 1, x3, x4 =>
  if nI 9 < x4 then
    some x3
  else
    M_worstAt_18 (M_worstAt_5 x1 x2 s fu) x1 x2 x3 x4 s FU (nI 0) (nI 0)
set_option maxRecDepth 100000 in
theorem ok_M_worstAt_5 {x1 : Int32} {x2 : Int32} {s : sg} : ∀ (fu : Nat) (x3 : Int32) (x4 : Int32) (rv : Int32), M_worstAt_5 x1 x2 s fu x3 x4 = some rv → mEnds [] 0 174 (5, [some (.ref 10), some (.int x1), some (.int x2), some (.int x3), some (.int x4), none, none], [], hp shM s, 0, 0) (some (.int rv), hp shM s, 0, 0)
  | 0, _, _, _, hf => by cases hf
  | fu + 1, x3, x4, rv, hf => by
    rw [M_worstAt_5] at hf
    refine mEnds.stp 2 (pc' := 9) (l' := [some (.ref 10), some (.int x1), some (.int x2), some (.int x3), some (.int x4), none, none]) (st' := [.int (nI 9), .int x4]) (fun _ => rfl) ?_
    by_cases hc1 : nI 9 < x4
    · rw [if_pos hc1] at hf
      refine t_cT (t := 107) (rfl : mfetch 174 9 = some (9, .if_icmp .gt 98, 3, 0, 0, 0)) rfl (k_gt hc1) ?_
      refine mEnds.stp 1 (pc' := 108) (l' := [some (.ref 10), some (.int x1), some (.int x2), some (.int x3), some (.int x4), none, none]) (st' := [.int x3]) (fun _ => rfl) ?_
      cases hf; exact mEnds.rt (fun _ => rfl)
    · rw [if_neg hc1] at hf
      refine t_cF (rfl : mfetch 174 9 = some (9, .if_icmp .gt 98, 3, 0, 0, 0)) (k_gt' hc1) ?_
      refine mEnds.stp 4 (pc' := 18) (l' := [some (.ref 10), some (.int x1), some (.int x2), some (.int x3), some (.int x4), some (.int (nI 0)), some (.int (nI 0))]) (st' := []) (fun _ => rfl) ?_
      refine mEnds.cut (l := [some (.ref 10), some (.int x1), some (.int x2), some (.int x3), some (.int x4), some (.int (nI 0)), some (.int (nI 0))]) ⟨rfl, ⟨rfl, ⟨rfl, ⟨rfl, ⟨rfl, ⟨rfl, ⟨rfl, trivial⟩⟩⟩⟩⟩⟩⟩ ?_
      exact ok_M_worstAt_18 (ok_M_worstAt_5 fu) FU (nI 0) (nI 0) _ hf
def M_worstAt (x1 : Int32) (x2 : Int32) (s : sg) : Option Int32 :=
  M_worstAt_5 x1 x2 s FU (nI 0) (nI 0)
set_option maxRecDepth 100000 in
theorem ok_M_worstAt {x1 : Int32} {x2 : Int32} {s : sg} {rv : Int32} (hf : M_worstAt x1 x2 s = some rv) : mEnds [] 0 174 (0, [some (.ref 10), some (.int x1), some (.int x2), none, none, none, none], [], hp shM s, 0, 0) (some (.int rv), hp shM s, 0, 0) := by
  unfold M_worstAt at hf
  refine mEnds.stp 4 (pc' := 5) (l' := [some (.ref 10), some (.int x1), some (.int x2), some (.int (nI 0)), some (.int (nI 0)), none, none]) (st' := []) (fun _ => rfl) ?_
  refine mEnds.cut (l := [some (.ref 10), some (.int x1), some (.int x2), some (.int (nI 0)), some (.int (nI 0)), none, none]) ⟨rfl, ⟨rfl, ⟨rfl, ⟨rfl, ⟨rfl, trivial⟩⟩⟩⟩⟩ ?_
  exact ok_M_worstAt_5 FU (nI 0) (nI 0) _ hf
def M_ask_124 (k70 : Int32 → Int32 → Int32 → sg → Option (Int32 × sg)) (k80 : Int32 → Int32 → Int32 → sg → Option (Int32 × sg)) (x2 : Int32) (x3 : Int32) (x4 : Int32) (x6 : Int32) (x7 : Int32) (x8 : Int32) (y0 : Int32) (s : sg) : Option (Int32 × sg) :=
  if x8 < x4 then
    k80 x8 y0 (x7 + (nI 1)) s
  else
    k80 x4 y0 (x7 + (nI 1)) s
set_option maxRecDepth 100000 in
theorem ok_M_ask_124 {k70 : Int32 → Int32 → Int32 → sg → Option (Int32 × sg)} {k80 : Int32 → Int32 → Int32 → sg → Option (Int32 × sg)} {x2 : Int32} {x3 : Int32} {x4 : Int32} {x6 : Int32} {x7 : Int32} {x8 : Int32} {y0 : Int32} {s : sg} {rv : (Int32 × sg)} (hk70 : ∀ (x4 : Int32) (x5 : Int32) (x6 : Int32) (s : sg) (rv : (Int32 × sg)), k70 x4 x5 x6 s = some rv → mEnds [] 6 175 (70, [some (.ref 10), none, some (.int x2), some (.int x3), some (.int x4), some (.int x5), some (.int x6), none, none], [], hp shM s, 0, 0) (some (.int rv.1), hp shM rv.2, 0, 0)) (hk80 : ∀ (x4 : Int32) (x5 : Int32) (x7 : Int32) (s : sg) (rv : (Int32 × sg)), k80 x4 x5 x7 s = some rv → mEnds [] 6 175 (80, [some (.ref 10), none, some (.int x2), some (.int x3), some (.int x4), some (.int x5), some (.int x6), some (.int x7), none], [], hp shM s, 0, 0) (some (.int rv.1), hp shM rv.2, 0, 0)) (hf : M_ask_124 k70 k80 x2 x3 x4 x6 x7 x8 y0 s = some rv) : mEnds [] 6 175 (124, [some (.ref 10), none, some (.int x2), some (.int x3), some (.int x4), none, some (.int x6), some (.int x7), some (.int x8)], [.int y0], hp shM s, 0, 0) (some (.int rv.1), hp shM rv.2, 0, 0) := by
  unfold M_ask_124 at hf
  refine mEnds.stp 3 (pc' := 130) (l' := [some (.ref 10), none, some (.int x2), some (.int x3), some (.int x4), some (.int y0), some (.int x6), some (.int x7), some (.int x8)]) (st' := [.int x4, .int x8]) (fun _ => rfl) ?_
  by_cases hc1 : x8 < x4
  · rw [if_pos hc1] at hf
    refine t_cF (rfl : mfetch 175 130 = some (130, .if_icmp .ge 8, 3, 0, 0, 0)) (k_ge' hc1) ?_
    refine mEnds.stp 5 (pc' := 80) (l' := [some (.ref 10), none, some (.int x2), some (.int x3), some (.int x8), some (.int y0), some (.int x6), some (.int (x7 + (nI 1))), some (.int x8)]) (st' := []) (fun _ => rfl) ?_
    refine mEnds.cut (l := [some (.ref 10), none, some (.int x2), some (.int x3), some (.int x8), some (.int y0), some (.int x6), some (.int (x7 + (nI 1))), none]) ⟨rfl, ⟨rfl, ⟨rfl, ⟨rfl, ⟨rfl, ⟨rfl, ⟨rfl, trivial⟩⟩⟩⟩⟩⟩⟩ ?_
    exact hk80 x8 y0 (x7 + (nI 1)) s _ hf
  · rw [if_neg hc1] at hf
    refine t_cT (t := 138) (rfl : mfetch 175 130 = some (130, .if_icmp .ge 8, 3, 0, 0, 0)) rfl (k_ge hc1) ?_
    refine mEnds.stp 4 (pc' := 80) (l' := [some (.ref 10), none, some (.int x2), some (.int x3), some (.int x4), some (.int y0), some (.int x6), some (.int (x7 + (nI 1))), some (.int x8)]) (st' := []) (fun _ => rfl) ?_
    refine mEnds.cut (l := [some (.ref 10), none, some (.int x2), some (.int x3), some (.int x4), some (.int y0), some (.int x6), some (.int (x7 + (nI 1))), none]) ⟨rfl, ⟨rfl, ⟨rfl, ⟨rfl, ⟨rfl, ⟨rfl, ⟨rfl, trivial⟩⟩⟩⟩⟩⟩⟩ ?_
    exact hk80 x4 y0 (x7 + (nI 1)) s _ hf
def M_ask_80 (k70 : Int32 → Int32 → Int32 → sg → Option (Int32 × sg)) (x2 : Int32) (x3 : Int32) (x6 : Int32) : Nat → Int32 → Int32 → Int32 → sg → Option (Int32 × sg)
  | 0, _, _, _, _ => none
  | fu + 1, x4, x5, x7, s =>
  if x7 < s 10 1 then
    (M_worstAt x3 (((nI 6) * x6) + x7) s).bind fun v1 =>
    if v1 < x4 then
      M_ask_124 k70 (M_ask_80 k70 x2 x3 x6 fu) x2 x3 x4 x6 x7 v1 (((nI 10) * x6) + x7) s
    else
      M_ask_124 k70 (M_ask_80 k70 x2 x3 x6 fu) x2 x3 x4 x6 x7 v1 x5 s
  else
    k70 x4 x5 (x6 + (nI 1)) s
set_option maxRecDepth 100000 in
theorem ok_M_ask_80 {k70 : Int32 → Int32 → Int32 → sg → Option (Int32 × sg)} {x2 : Int32} {x3 : Int32} {x6 : Int32} (hk70 : ∀ (x4 : Int32) (x5 : Int32) (x6 : Int32) (s : sg) (rv : (Int32 × sg)), k70 x4 x5 x6 s = some rv → mEnds [] 6 175 (70, [some (.ref 10), none, some (.int x2), some (.int x3), some (.int x4), some (.int x5), some (.int x6), none, none], [], hp shM s, 0, 0) (some (.int rv.1), hp shM rv.2, 0, 0)) : ∀ (fu : Nat) (x4 : Int32) (x5 : Int32) (x7 : Int32) (s : sg) (rv : (Int32 × sg)), M_ask_80 k70 x2 x3 x6 fu x4 x5 x7 s = some rv → mEnds [] 6 175 (80, [some (.ref 10), none, some (.int x2), some (.int x3), some (.int x4), some (.int x5), some (.int x6), some (.int x7), none], [], hp shM s, 0, 0) (some (.int rv.1), hp shM rv.2, 0, 0)
  | 0, _, _, _, _, _, hf => by cases hf
  | fu + 1, x4, x5, x7, s, rv, hf => by
    rw [M_ask_80] at hf
    refine mEnds.stp 2 (pc' := 83) (l' := [some (.ref 10), none, some (.int x2), some (.int x3), some (.int x4), some (.int x5), some (.int x6), some (.int x7), none]) (st' := [.ref 10, .int x7]) (fun _ => rfl) ?_
    refine t_gi (rfl : mfetch 175 83 = some (83, .getfield 139, 3, 5, 1, 0)) rfl rfl ?_
    by_cases hc1 : x7 < s 10 1
    · rw [if_pos hc1] at hf
      refine t_cF (rfl : mfetch 175 86 = some (86, .if_icmp .ge 62, 3, 0, 0, 0)) (k_ge' hc1) ?_
      refine mEnds.stp 7 (pc' := 99) (l' := [some (.ref 10), none, some (.int x2), some (.int x3), some (.int x4), some (.int x5), some (.int x6), some (.int x7), none]) (st' := [.int (((nI 6) * x6) + x7), .int x3, .ref 10]) (fun _ => rfl) ?_
      obtain ⟨v1, hv1, hf⟩ := ob hf
      refine t_cv (as := [.int x3, .int (((nI 6) * x6) + x7)]) (st := []) (rfl : mfetch 175 99 = some (99, .invokevirtual 246, 3, 174, 0, 0)) rfl rfl rfl rfl rfl ((ok_M_worstAt hv1).deep 5) ?_
      refine mEnds.stp 3 (pc' := 108) (l' := [some (.ref 10), none, some (.int x2), some (.int x3), some (.int x4), some (.int x5), some (.int x6), some (.int x7), some (.int v1)]) (st' := [.int x4, .int v1]) (fun _ => rfl) ?_
      by_cases hc2 : v1 < x4
      · rw [if_pos hc2] at hf
        refine t_cF (rfl : mfetch 175 108 = some (108, .if_icmp .ge 14, 3, 0, 0, 0)) (k_ge' hc2) ?_
        refine mEnds.stp 6 (pc' := 124) (l' := [some (.ref 10), none, some (.int x2), some (.int x3), some (.int x4), some (.int x5), some (.int x6), some (.int x7), some (.int v1)]) (st' := [.int (((nI 10) * x6) + x7)]) (fun _ => rfl) ?_
        refine mEnds.cut (l := [some (.ref 10), none, some (.int x2), some (.int x3), some (.int x4), none, some (.int x6), some (.int x7), some (.int v1)]) ⟨rfl, ⟨rfl, ⟨rfl, ⟨rfl, ⟨rfl, ⟨rfl, ⟨rfl, trivial⟩⟩⟩⟩⟩⟩⟩ ?_
        exact ok_M_ask_124 hk70 (ok_M_ask_80 hk70 fu) hf
      · rw [if_neg hc2] at hf
        refine t_cT (t := 122) (rfl : mfetch 175 108 = some (108, .if_icmp .ge 14, 3, 0, 0, 0)) rfl (k_ge hc2) ?_
        refine mEnds.stp 1 (pc' := 124) (l' := [some (.ref 10), none, some (.int x2), some (.int x3), some (.int x4), some (.int x5), some (.int x6), some (.int x7), some (.int v1)]) (st' := [.int x5]) (fun _ => rfl) ?_
        refine mEnds.cut (l := [some (.ref 10), none, some (.int x2), some (.int x3), some (.int x4), none, some (.int x6), some (.int x7), some (.int v1)]) ⟨rfl, ⟨rfl, ⟨rfl, ⟨rfl, ⟨rfl, ⟨rfl, ⟨rfl, trivial⟩⟩⟩⟩⟩⟩⟩ ?_
        exact ok_M_ask_124 hk70 (ok_M_ask_80 hk70 fu) hf
    · rw [if_neg hc1] at hf
      refine t_cT (t := 148) (rfl : mfetch 175 86 = some (86, .if_icmp .ge 62, 3, 0, 0, 0)) rfl (k_ge hc1) ?_
      refine mEnds.stp 2 (pc' := 70) (l' := [some (.ref 10), none, some (.int x2), some (.int x3), some (.int x4), some (.int x5), some (.int (x6 + (nI 1))), some (.int x7), none]) (st' := []) (fun _ => rfl) ?_
      refine mEnds.cut (l := [some (.ref 10), none, some (.int x2), some (.int x3), some (.int x4), some (.int x5), some (.int (x6 + (nI 1))), none, none]) ⟨rfl, ⟨rfl, ⟨rfl, ⟨rfl, ⟨rfl, ⟨rfl, trivial⟩⟩⟩⟩⟩⟩ ?_
      exact hk70 x4 x5 (x6 + (nI 1)) s _ hf
def M_ask_70 (x2 : Int32) (x3 : Int32) : Nat → Int32 → Int32 → Int32 → sg → Option (Int32 × sg)
  | 0, _, _, _, _ => none
  | fu + 1, x4, x5, x6, s =>
  if nI 20 < x6 then
    if x5 = (-4) then
      some (x5, s)
    else
      if x2 = 0 then
        some (x5, s)
      else
        some (x4, s)
  else
    M_ask_80 (M_ask_70 x2 x3 fu) x2 x3 x6 FU x4 x5 (nI 0) s
set_option maxRecDepth 100000 in
theorem ok_M_ask_70 {x2 : Int32} {x3 : Int32} : ∀ (fu : Nat) (x4 : Int32) (x5 : Int32) (x6 : Int32) (s : sg) (rv : (Int32 × sg)), M_ask_70 x2 x3 fu x4 x5 x6 s = some rv → mEnds [] 6 175 (70, [some (.ref 10), none, some (.int x2), some (.int x3), some (.int x4), some (.int x5), some (.int x6), none, none], [], hp shM s, 0, 0) (some (.int rv.1), hp shM rv.2, 0, 0)
  | 0, _, _, _, _, _, hf => by cases hf
  | fu + 1, x4, x5, x6, s, rv, hf => by
    rw [M_ask_70] at hf
    refine mEnds.stp 2 (pc' := 74) (l' := [some (.ref 10), none, some (.int x2), some (.int x3), some (.int x4), some (.int x5), some (.int x6), none, none]) (st' := [.int (nI 20), .int x6]) (fun _ => rfl) ?_
    by_cases hc1 : nI 20 < x6
    · rw [if_pos hc1] at hf
      refine t_cT (t := 154) (rfl : mfetch 175 74 = some (74, .if_icmp .gt 80, 3, 0, 0, 0)) rfl (k_gt hc1) ?_
      refine mEnds.stp 2 (pc' := 158) (l' := [some (.ref 10), none, some (.int x2), some (.int x3), some (.int x4), some (.int x5), some (.int x6), none, none]) (st' := [.int (-4), .int x5]) (fun _ => rfl) ?_
      by_cases hc2 : x5 = (-4)
      · rw [if_pos hc2] at hf
        refine t_cT (t := 165) (rfl : mfetch 175 158 = some (158, .if_icmp .eq 7, 3, 0, 0, 0)) rfl (k_eq hc2) ?_
        refine mEnds.stp 2 (pc' := 172) (l' := [some (.ref 10), none, some (.int x2), some (.int x3), some (.int x4), some (.int x5), some (.int x6), none, none]) (st' := [.int x5]) (fun _ => rfl) ?_
        exact mEnds.rti (Option.some.inj hf) (fun _ => rfl)
      · rw [if_neg hc2] at hf
        refine t_cF (rfl : mfetch 175 158 = some (158, .if_icmp .eq 7, 3, 0, 0, 0)) (k_eq' hc2) ?_
        refine mEnds.stp 1 (pc' := 162) (l' := [some (.ref 10), none, some (.int x2), some (.int x3), some (.int x4), some (.int x5), some (.int x6), none, none]) (st' := [.int x2]) (fun _ => rfl) ?_
        by_cases hc3 : x2 = 0
        · rw [if_pos hc3] at hf
          refine t_jF (rfl : mfetch 175 162 = some (162, .ifCond .ne 8, 3, 0, 0, 0)) (k_ne' hc3) ?_
          refine mEnds.stp 2 (pc' := 172) (l' := [some (.ref 10), none, some (.int x2), some (.int x3), some (.int x4), some (.int x5), some (.int x6), none, none]) (st' := [.int x5]) (fun _ => rfl) ?_
          exact mEnds.rti (Option.some.inj hf) (fun _ => rfl)
        · rw [if_neg hc3] at hf
          refine t_jT (t := 170) (rfl : mfetch 175 162 = some (162, .ifCond .ne 8, 3, 0, 0, 0)) rfl (k_ne hc3) ?_
          refine mEnds.stp 1 (pc' := 172) (l' := [some (.ref 10), none, some (.int x2), some (.int x3), some (.int x4), some (.int x5), some (.int x6), none, none]) (st' := [.int x4]) (fun _ => rfl) ?_
          exact mEnds.rti (Option.some.inj hf) (fun _ => rfl)
    · rw [if_neg hc1] at hf
      refine t_cF (rfl : mfetch 175 74 = some (74, .if_icmp .gt 80, 3, 0, 0, 0)) (k_gt' hc1) ?_
      refine mEnds.stp 2 (pc' := 80) (l' := [some (.ref 10), none, some (.int x2), some (.int x3), some (.int x4), some (.int x5), some (.int x6), some (.int (nI 0)), none]) (st' := []) (fun _ => rfl) ?_
      refine mEnds.cut (l := [some (.ref 10), none, some (.int x2), some (.int x3), some (.int x4), some (.int x5), some (.int x6), some (.int (nI 0)), none]) ⟨rfl, ⟨rfl, ⟨rfl, ⟨rfl, ⟨rfl, ⟨rfl, ⟨rfl, trivial⟩⟩⟩⟩⟩⟩⟩ ?_
      exact ok_M_ask_80 (ok_M_ask_70 fu) FU x4 x5 (nI 0) s _ hf
def M_ask_39 (x2 : Int32) (x3 : Int32) : Nat → Int32 → Int32 → sg → Option (Int32 × sg)
  | 0, _, _, _ => none
  | fu + 1, x4, x5, s =>
  if nI 9 < x5 then
    M_ask_70 x2 x3 FU x4 (-4) (nI 0) s
  else
    M_ask_39 x2 x3 fu (x4 + ((x3 >>> (x5 &&& 31)) &&& (nI 1))) (x5 + (nI 1)) s
set_option maxRecDepth 100000 in
theorem ok_M_ask_39 {x2 : Int32} {x3 : Int32} : ∀ (fu : Nat) (x4 : Int32) (x5 : Int32) (s : sg) (rv : (Int32 × sg)), M_ask_39 x2 x3 fu x4 x5 s = some rv → mEnds [] 6 175 (39, [some (.ref 10), none, some (.int x2), some (.int x3), some (.int x4), some (.int x5), none, none, none], [], hp shM s, 0, 0) (some (.int rv.1), hp shM rv.2, 0, 0)
  | 0, _, _, _, _, hf => by cases hf
  | fu + 1, x4, x5, s, rv, hf => by
    rw [M_ask_39] at hf
    refine mEnds.stp 2 (pc' := 43) (l' := [some (.ref 10), none, some (.int x2), some (.int x3), some (.int x4), some (.int x5), none, none, none]) (st' := [.int (nI 9), .int x5]) (fun _ => rfl) ?_
    by_cases hc1 : nI 9 < x5
    · rw [if_pos hc1] at hf
      refine t_cT (t := 63) (rfl : mfetch 175 43 = some (43, .if_icmp .gt 20, 3, 0, 0, 0)) rfl (k_gt hc1) ?_
      refine mEnds.stp 4 (pc' := 70) (l' := [some (.ref 10), none, some (.int x2), some (.int x3), some (.int x4), some (.int (-4)), some (.int (nI 0)), none, none]) (st' := []) (fun _ => rfl) ?_
      refine mEnds.cut (l := [some (.ref 10), none, some (.int x2), some (.int x3), some (.int x4), some (.int (-4)), some (.int (nI 0)), none, none]) ⟨rfl, ⟨rfl, ⟨rfl, ⟨rfl, ⟨rfl, ⟨rfl, trivial⟩⟩⟩⟩⟩⟩ ?_
      exact ok_M_ask_70 FU x4 (-4) (nI 0) s _ hf
    · rw [if_neg hc1] at hf
      refine t_cF (rfl : mfetch 175 43 = some (43, .if_icmp .gt 20, 3, 0, 0, 0)) (k_gt' hc1) ?_
      refine mEnds.stp 10 (pc' := 39) (l' := [some (.ref 10), none, some (.int x2), some (.int x3), some (.int (x4 + ((x3 >>> (x5 &&& 31)) &&& (nI 1)))), some (.int (x5 + (nI 1))), none, none, none]) (st' := []) (fun _ => rfl) ?_
      refine mEnds.cut (l := [some (.ref 10), none, some (.int x2), some (.int x3), some (.int (x4 + ((x3 >>> (x5 &&& 31)) &&& (nI 1)))), some (.int (x5 + (nI 1))), none, none, none]) ⟨rfl, ⟨rfl, ⟨rfl, ⟨rfl, ⟨rfl, trivial⟩⟩⟩⟩⟩ ?_
      exact ok_M_ask_39 fu (x4 + ((x3 >>> (x5 &&& 31)) &&& (nI 1))) (x5 + (nI 1)) s _ hf
def M_ask (x1 : Int32) (x2 : Int32) (s : sg) : Option (Int32 × sg) :=
  (M_isWall x1 s).bind fun v1 =>
  if v1 = 0 then
    some ((-1), s)
  else
    (M_in x2.toInt64 (0 : Int64) (1 : Int64) s).bind fun v2 =>
    if v2 = 0 then
      some ((-1), s)
    else
      (M_numbersAt ((nI 36) + x1) (-2) (nI 10) s).bind fun v3 =>
      M_ask_39 x2 v3.1 FU (nI 0) (nI 0) v3.2
set_option maxRecDepth 100000 in
theorem ok_M_ask {x1 : Int32} {x2 : Int32} {s : sg} {rv : (Int32 × sg)} (hf : M_ask x1 x2 s = some rv) : mEnds [] 6 175 (0, [some (.ref 10), some (.int x1), some (.int x2), none, none, none, none, none, none], [], hp shM s, 0, 0) (some (.int rv.1), hp shM rv.2, 0, 0) := by
  unfold M_ask at hf
  refine mEnds.stp 2 (pc' := 2) (l' := [some (.ref 10), some (.int x1), some (.int x2), none, none, none, none, none, none]) (st' := [.int x1, .ref 10]) (fun _ => rfl) ?_
  obtain ⟨v1, hv1, hf⟩ := ob hf
  refine t_cv (as := [.int x1]) (st := []) (rfl : mfetch 175 2 = some (2, .invokevirtual 176, 3, 127, 0, 0)) rfl rfl rfl rfl rfl ((ok_M_isWall hv1).deep 4) ?_
  by_cases hc1 : v1 = 0
  · rw [if_pos hc1] at hf
    refine t_jT (t := 18) (rfl : mfetch 175 5 = some (5, .ifCond .eq 13, 3, 0, 0, 0)) rfl (k_eq hc1) ?_
    refine mEnds.stp 1 (pc' := 19) (l' := [some (.ref 10), some (.int x1), some (.int x2), none, none, none, none, none, none]) (st' := [.int (-1)]) (fun _ => rfl) ?_
    exact mEnds.rti (Option.some.inj hf) (fun _ => rfl)
  · rw [if_neg hc1] at hf
    refine t_jF (rfl : mfetch 175 5 = some (5, .ifCond .eq 13, 3, 0, 0, 0)) (k_eq' hc1) ?_
    refine mEnds.stp 4 (pc' := 12) (l' := [some (.ref 10), some (.int x1), some (.int x2), none, none, none, none, none, none]) (st' := [.long (1 : Int64), .long (0 : Int64), .long x2.toInt64]) (fun _ => rfl) ?_
    obtain ⟨v2, hv2, hf⟩ := ob hf
    refine t_cs (as := [.long x2.toInt64, .long (0 : Int64), .long (1 : Int64)]) (st := []) (Or.inl rfl) (rfl : mfetch 175 12 = some (12, .invokestatic 49, 3, 111, 0, 0)) rfl rfl rfl ((ok_M_in hv2).deep 5) ?_
    by_cases hc2 : v2 = 0
    · rw [if_pos hc2] at hf
      refine t_jF (rfl : mfetch 175 15 = some (15, .ifCond .ne 5, 3, 0, 0, 0)) (k_ne' hc2) ?_
      refine mEnds.stp 1 (pc' := 19) (l' := [some (.ref 10), some (.int x1), some (.int x2), none, none, none, none, none, none]) (st' := [.int (-1)]) (fun _ => rfl) ?_
      exact mEnds.rti (Option.some.inj hf) (fun _ => rfl)
    · rw [if_neg hc2] at hf
      refine t_jT (t := 20) (rfl : mfetch 175 15 = some (15, .ifCond .ne 5, 3, 0, 0, 0)) rfl (k_ne hc2) ?_
      refine mEnds.stp 6 (pc' := 29) (l' := [some (.ref 10), some (.int x1), some (.int x2), none, none, none, none, none, none]) (st' := [.int (nI 10), .int (-2), .int ((nI 36) + x1), .ref 10]) (fun _ => rfl) ?_
      obtain ⟨v3, hv3, hf⟩ := ob hf
      refine t_cv (as := [.int ((nI 36) + x1), .int (-2), .int (nI 10)]) (st := []) (rfl : mfetch 175 29 = some (29, .invokevirtual 242, 3, 171, 0, 0)) rfl rfl rfl rfl rfl (ok_M_numbersAt hv3) ?_
      refine mEnds.stp 5 (pc' := 39) (l' := [some (.ref 10), some (.int x1), some (.int x2), some (.int v3.1), some (.int (nI 0)), some (.int (nI 0)), none, none, none]) (st' := []) (fun _ => rfl) ?_
      refine mEnds.cut (l := [some (.ref 10), none, some (.int x2), some (.int v3.1), some (.int (nI 0)), some (.int (nI 0)), none, none, none]) ⟨rfl, ⟨rfl, ⟨rfl, ⟨rfl, ⟨rfl, trivial⟩⟩⟩⟩⟩ ?_
      exact ok_M_ask_39 FU (nI 0) (nI 0) v3.2 _ hf
def M_drift_48 (x2 : Int32) (x3 : Int32) : Nat → Int32 → Int32 → sg → Option (Int32 × sg)
  | 0, _, _, _ => none
  | fu + 1, x4, x5, s =>
  if x5 < x2 then
    (M_hourOn (nI 208) (((((x4 * (nI 1103515245)) + (nI 12345)) >>> ((nI 16) &&& 31)) &&& (nI 32767)) - ((((x4 * (nI 1103515245)) + (nI 12345)) >>> ((nI 16) &&& 31)) &&& (nI 32767)) / (nI 40) * (nI 40)) (nI 0) s).bind fun s1 =>
    M_drift_48 x2 x3 fu ((x4 * (nI 1103515245)) + (nI 12345)) (x5 + (nI 1)) s1
  else
    if x3 = 0 then
      (midx (nI 258) 312).bind fun j1 =>
      (midx (nI 50) 312).bind fun j2 =>
      some ((s 11 j1) - (s 11 j2), s)
    else
      (M_warmthOn (nI 208) s).bind fun v1 =>
      some (v1, s)
set_option maxRecDepth 100000 in
theorem ok_M_drift_48 {x2 : Int32} {x3 : Int32} : ∀ (fu : Nat) (x4 : Int32) (x5 : Int32) (s : sg) (rv : (Int32 × sg)), M_drift_48 x2 x3 fu x4 x5 s = some rv → mEnds [] 3 176 (48, [some (.ref 10), none, some (.int x2), some (.int x3), some (.int x4), some (.int x5)], [], hp shM s, 0, 0) (some (.int rv.1), hp shM rv.2, 0, 0)
  | 0, _, _, _, _, hf => by cases hf
  | fu + 1, x4, x5, s, rv, hf => by
    rw [M_drift_48] at hf
    refine mEnds.stp 2 (pc' := 51) (l' := [some (.ref 10), none, some (.int x2), some (.int x3), some (.int x4), some (.int x5)]) (st' := [.int x2, .int x5]) (fun _ => rfl) ?_
    by_cases hc1 : x5 < x2
    · rw [if_pos hc1] at hf
      refine t_cF (rfl : mfetch 176 51 = some (51, .if_icmp .ge 40, 3, 0, 0, 0)) (k_ge' hc1) ?_
      refine mEnds.stp 16 (pc' := 82) (l' := [some (.ref 10), none, some (.int x2), some (.int x3), some (.int ((x4 * (nI 1103515245)) + (nI 12345))), some (.int x5)]) (st' := [.int (nI 0), .int (((((x4 * (nI 1103515245)) + (nI 12345)) >>> ((nI 16) &&& 31)) &&& (nI 32767)) - ((((x4 * (nI 1103515245)) + (nI 12345)) >>> ((nI 16) &&& 31)) &&& (nI 32767)) / (nI 40) * (nI 40)), .int (nI 208), .ref 10]) (fun _ => rfl) ?_
      obtain ⟨s1, hs1, hf⟩ := ob hf
      refine t_cv (as := [.int (nI 208), .int (((((x4 * (nI 1103515245)) + (nI 12345)) >>> ((nI 16) &&& 31)) &&& (nI 32767)) - ((((x4 * (nI 1103515245)) + (nI 12345)) >>> ((nI 16) &&& 31)) &&& (nI 32767)) / (nI 40) * (nI 40)), .int (nI 0)]) (st := []) (rfl : mfetch 176 82 = some (82, .invokevirtual 157, 3, 132, 0, 0)) rfl rfl rfl rfl rfl (ok_M_hourOn hs1) ?_
      refine mEnds.stp 2 (pc' := 48) (l' := [some (.ref 10), none, some (.int x2), some (.int x3), some (.int ((x4 * (nI 1103515245)) + (nI 12345))), some (.int (x5 + (nI 1)))]) (st' := []) (fun _ => rfl) ?_
      refine mEnds.cut (l := [some (.ref 10), none, some (.int x2), some (.int x3), some (.int ((x4 * (nI 1103515245)) + (nI 12345))), some (.int (x5 + (nI 1)))]) ⟨rfl, ⟨rfl, ⟨rfl, ⟨rfl, ⟨rfl, trivial⟩⟩⟩⟩⟩ ?_
      exact ok_M_drift_48 fu ((x4 * (nI 1103515245)) + (nI 12345)) (x5 + (nI 1)) s1 _ hf
    · rw [if_neg hc1] at hf
      refine t_cT (t := 91) (rfl : mfetch 176 51 = some (51, .if_icmp .ge 40, 3, 0, 0, 0)) rfl (k_ge hc1) ?_
      refine mEnds.stp 1 (pc' := 92) (l' := [some (.ref 10), none, some (.int x2), some (.int x3), some (.int x4), some (.int x5)]) (st' := [.int x3]) (fun _ => rfl) ?_
      by_cases hc2 : x3 = 0
      · rw [if_pos hc2] at hf
        refine t_jF (rfl : mfetch 176 92 = some (92, .ifCond .ne 22, 3, 0, 0, 0)) (k_ne' hc2) ?_
        refine mEnds.stp 1 (pc' := 96) (l' := [some (.ref 10), none, some (.int x2), some (.int x3), some (.int x4), some (.int x5)]) (st' := [.ref 10]) (fun _ => rfl) ?_
        refine t_gr (rfl : mfetch 176 96 = some (96, .getfield 7, 3, 5, 0, 0)) rfl rfl ?_
        refine mEnds.stp 1 (pc' := 102) (l' := [some (.ref 10), none, some (.int x2), some (.int x3), some (.int x4), some (.int x5)]) (st' := [.int (nI 258), .ref 11]) (fun _ => rfl) ?_
        obtain ⟨j1, hj1, hf⟩ := ob hf
        refine t_ia (rfl : mfetch 176 102 = some (102, .iaload, 1, 0, 0, 0)) rfl rfl hj1 ?_
        refine mEnds.stp 1 (pc' := 104) (l' := [some (.ref 10), none, some (.int x2), some (.int x3), some (.int x4), some (.int x5)]) (st' := [.ref 10, .int (s 11 j1)]) (fun _ => rfl) ?_
        refine t_gr (rfl : mfetch 176 104 = some (104, .getfield 7, 3, 5, 0, 0)) rfl rfl ?_
        refine mEnds.stp 1 (pc' := 109) (l' := [some (.ref 10), none, some (.int x2), some (.int x3), some (.int x4), some (.int x5)]) (st' := [.int (nI 50), .ref 11, .int (s 11 j1)]) (fun _ => rfl) ?_
        obtain ⟨j2, hj2, hf⟩ := ob hf
        refine t_ia (rfl : mfetch 176 109 = some (109, .iaload, 1, 0, 0, 0)) rfl rfl hj2 ?_
        refine mEnds.stp 2 (pc' := 121) (l' := [some (.ref 10), none, some (.int x2), some (.int x3), some (.int x4), some (.int x5)]) (st' := [.int ((s 11 j1) - (s 11 j2))]) (fun _ => rfl) ?_
        exact mEnds.rti (Option.some.inj hf) (fun _ => rfl)
      · rw [if_neg hc2] at hf
        refine t_jT (t := 114) (rfl : mfetch 176 92 = some (92, .ifCond .ne 22, 3, 0, 0, 0)) rfl (k_ne hc2) ?_
        refine mEnds.stp 2 (pc' := 118) (l' := [some (.ref 10), none, some (.int x2), some (.int x3), some (.int x4), some (.int x5)]) (st' := [.int (nI 208), .ref 10]) (fun _ => rfl) ?_
        obtain ⟨v1, hv1, hf⟩ := ob hf
        refine t_cv (as := [.int (nI 208)]) (st := []) (rfl : mfetch 176 118 = some (118, .invokevirtual 161, 3, 135, 0, 0)) rfl rfl rfl rfl rfl ((ok_M_warmthOn hv1).deep 2) ?_
        exact mEnds.rti (Option.some.inj hf) (fun _ => rfl)
def M_drift (x1 : Int32) (x2 : Int32) (x3 : Int32) (s : sg) : Option (Int32 × sg) :=
  (M_in x2.toInt64 (1 : Int64) (60 : Int64) s).bind fun v1 =>
  if v1 = 0 then
    some ((-1), s)
  else
    (M_in x3.toInt64 (0 : Int64) (1 : Int64) s).bind fun v2 =>
    if v2 = 0 then
      some ((-1), s)
    else
      if s 10 1 = 0 then
        some ((-2), s)
      else
        (M_copies (nI 0) (nI 208) s).bind fun s1 =>
        M_drift_48 x2 x3 FU x1 (nI 0) s1
set_option maxRecDepth 100000 in
theorem ok_M_drift {x1 : Int32} {x2 : Int32} {x3 : Int32} {s : sg} {rv : (Int32 × sg)} (hf : M_drift x1 x2 x3 s = some rv) : mEnds [] 3 176 (0, [some (.ref 10), some (.int x1), some (.int x2), some (.int x3), none, none], [], hp shM s, 0, 0) (some (.int rv.1), hp shM rv.2, 0, 0) := by
  unfold M_drift at hf
  refine mEnds.stp 4 (pc' := 6) (l' := [some (.ref 10), some (.int x1), some (.int x2), some (.int x3), none, none]) (st' := [.long (60 : Int64), .long (1 : Int64), .long x2.toInt64]) (fun _ => rfl) ?_
  obtain ⟨v1, hv1, hf⟩ := ob hf
  refine t_cs (as := [.long x2.toInt64, .long (1 : Int64), .long (60 : Int64)]) (st := []) (Or.inl rfl) (rfl : mfetch 176 6 = some (6, .invokestatic 49, 3, 111, 0, 0)) rfl rfl rfl ((ok_M_in hv1).deep 2) ?_
  by_cases hc1 : v1 = 0
  · rw [if_pos hc1] at hf
    refine t_jT (t := 22) (rfl : mfetch 176 9 = some (9, .ifCond .eq 13, 3, 0, 0, 0)) rfl (k_eq hc1) ?_
    refine mEnds.stp 1 (pc' := 23) (l' := [some (.ref 10), some (.int x1), some (.int x2), some (.int x3), none, none]) (st' := [.int (-1)]) (fun _ => rfl) ?_
    exact mEnds.rti (Option.some.inj hf) (fun _ => rfl)
  · rw [if_neg hc1] at hf
    refine t_jF (rfl : mfetch 176 9 = some (9, .ifCond .eq 13, 3, 0, 0, 0)) (k_eq' hc1) ?_
    refine mEnds.stp 4 (pc' := 16) (l' := [some (.ref 10), some (.int x1), some (.int x2), some (.int x3), none, none]) (st' := [.long (1 : Int64), .long (0 : Int64), .long x3.toInt64]) (fun _ => rfl) ?_
    obtain ⟨v2, hv2, hf⟩ := ob hf
    refine t_cs (as := [.long x3.toInt64, .long (0 : Int64), .long (1 : Int64)]) (st := []) (Or.inl rfl) (rfl : mfetch 176 16 = some (16, .invokestatic 49, 3, 111, 0, 0)) rfl rfl rfl ((ok_M_in hv2).deep 2) ?_
    by_cases hc2 : v2 = 0
    · rw [if_pos hc2] at hf
      refine t_jF (rfl : mfetch 176 19 = some (19, .ifCond .ne 5, 3, 0, 0, 0)) (k_ne' hc2) ?_
      refine mEnds.stp 1 (pc' := 23) (l' := [some (.ref 10), some (.int x1), some (.int x2), some (.int x3), none, none]) (st' := [.int (-1)]) (fun _ => rfl) ?_
      exact mEnds.rti (Option.some.inj hf) (fun _ => rfl)
    · rw [if_neg hc2] at hf
      refine t_jT (t := 24) (rfl : mfetch 176 19 = some (19, .ifCond .ne 5, 3, 0, 0, 0)) rfl (k_ne hc2) ?_
      refine mEnds.stp 1 (pc' := 25) (l' := [some (.ref 10), some (.int x1), some (.int x2), some (.int x3), none, none]) (st' := [.ref 10]) (fun _ => rfl) ?_
      refine t_gi (rfl : mfetch 176 25 = some (25, .getfield 139, 3, 5, 1, 0)) rfl rfl ?_
      by_cases hc3 : s 10 1 = 0
      · rw [if_pos hc3] at hf
        refine t_jF (rfl : mfetch 176 28 = some (28, .ifCond .ne 6, 3, 0, 0, 0)) (k_ne' hc3) ?_
        refine mEnds.stp 1 (pc' := 33) (l' := [some (.ref 10), some (.int x1), some (.int x2), some (.int x3), none, none]) (st' := [.int (-2)]) (fun _ => rfl) ?_
        exact mEnds.rti (Option.some.inj hf) (fun _ => rfl)
      · rw [if_neg hc3] at hf
        refine t_jT (t := 34) (rfl : mfetch 176 28 = some (28, .ifCond .ne 6, 3, 0, 0, 0)) rfl (k_ne hc3) ?_
        refine mEnds.stp 3 (pc' := 39) (l' := [some (.ref 10), some (.int x1), some (.int x2), some (.int x3), none, none]) (st' := [.int (nI 208), .int (nI 0), .ref 10]) (fun _ => rfl) ?_
        obtain ⟨s1, hs1, hf⟩ := ob hf
        refine t_cv (as := [.int (nI 0), .int (nI 208)]) (st := []) (rfl : mfetch 176 39 = some (39, .invokevirtual 201, 3, 152, 0, 0)) rfl rfl rfl rfl rfl ((ok_M_copies hs1).deep 2) ?_
        refine mEnds.stp 4 (pc' := 48) (l' := [some (.ref 10), some (.int x1), some (.int x2), some (.int x3), some (.int x1), some (.int (nI 0))]) (st' := []) (fun _ => rfl) ?_
        refine mEnds.cut (l := [some (.ref 10), none, some (.int x2), some (.int x3), some (.int x1), some (.int (nI 0))]) ⟨rfl, ⟨rfl, ⟨rfl, ⟨rfl, ⟨rfl, trivial⟩⟩⟩⟩⟩ ?_
        exact ok_M_drift_48 FU x1 (nI 0) s1 _ hf
def M_keep_37 (x1 : Int32) (y0 : Int32) (s : sg) : Option (Int32 × sg) :=
  (midx x1 2).bind fun j1 =>
  (some (up s 19 j1 (vp_nar .boolean (nI 1)))).bind fun s1 =>
  some (y0, s1)
set_option maxRecDepth 100000 in
theorem ok_M_keep_37 {x1 : Int32} {y0 : Int32} {s : sg} {rv : (Int32 × sg)} (hf : M_keep_37 x1 y0 s = some rv) : mEnds [] 1 177 (37, [some (.ref 10), some (.int x1), none], [.int y0], hp shM s, 0, 0) (some (.int rv.1), hp shM rv.2, 0, 0) := by
  unfold M_keep_37 at hf
  refine mEnds.stp 2 (pc' := 39) (l' := [some (.ref 10), some (.int x1), some (.int y0)]) (st' := [.ref 10]) (fun _ => rfl) ?_
  refine t_gr (rfl : mfetch 177 39 = some (39, .getfield 34, 3, 5, 24, 0)) rfl rfl ?_
  refine mEnds.stp 2 (pc' := 44) (l' := [some (.ref 10), some (.int x1), some (.int y0)]) (st' := [.int (nI 1), .int x1, .ref 19]) (fun _ => rfl) ?_
  obtain ⟨j1, hj1, hf⟩ := ob hf
  obtain ⟨s1, hs1, hf⟩ := ob hf
  refine t_zs (rfl : mfetch 177 44 = some (44, .bastore, 1, 0, 0, 0)) rfl rfl hj1 hs1 ?_
  refine mEnds.stp 1 (pc' := 46) (l' := [some (.ref 10), some (.int x1), some (.int y0)]) (st' := [.int y0]) (fun _ => rfl) ?_
  exact mEnds.rti (Option.some.inj hf) (fun _ => rfl)
def M_keep (x1 : Int32) (s : sg) : Option (Int32 × sg) :=
  (M_in x1.toInt64 (0 : Int64) (1 : Int64) s).bind fun v1 =>
  if v1 = 0 then
    some ((-1), s)
  else
    (M_copies (nI 0) ((nI 52) * (x1 + (nI 1))) s).bind fun s1 =>
    (midx x1 2).bind fun j1 =>
    if s1 19 j1 = 0 then
      M_keep_37 x1 (nI 0) s1
    else
      M_keep_37 x1 (nI 1) s1
set_option maxRecDepth 100000 in
theorem ok_M_keep {x1 : Int32} {s : sg} {rv : (Int32 × sg)} (hf : M_keep x1 s = some rv) : mEnds [] 1 177 (0, [some (.ref 10), some (.int x1), none], [], hp shM s, 0, 0) (some (.int rv.1), hp shM rv.2, 0, 0) := by
  unfold M_keep at hf
  refine mEnds.stp 4 (pc' := 4) (l' := [some (.ref 10), some (.int x1), none]) (st' := [.long (1 : Int64), .long (0 : Int64), .long x1.toInt64]) (fun _ => rfl) ?_
  obtain ⟨v1, hv1, hf⟩ := ob hf
  refine t_cs (as := [.long x1.toInt64, .long (0 : Int64), .long (1 : Int64)]) (st := []) (Or.inl rfl) (rfl : mfetch 177 4 = some (4, .invokestatic 49, 3, 111, 0, 0)) rfl rfl rfl (ok_M_in hv1) ?_
  by_cases hc1 : v1 = 0
  · rw [if_pos hc1] at hf
    refine t_jF (rfl : mfetch 177 7 = some (7, .ifCond .ne 5, 3, 0, 0, 0)) (k_ne' hc1) ?_
    refine mEnds.stp 1 (pc' := 11) (l' := [some (.ref 10), some (.int x1), none]) (st' := [.int (-1)]) (fun _ => rfl) ?_
    exact mEnds.rti (Option.some.inj hf) (fun _ => rfl)
  · rw [if_neg hc1] at hf
    refine t_jT (t := 12) (rfl : mfetch 177 7 = some (7, .ifCond .ne 5, 3, 0, 0, 0)) rfl (k_ne hc1) ?_
    refine mEnds.stp 7 (pc' := 20) (l' := [some (.ref 10), some (.int x1), none]) (st' := [.int ((nI 52) * (x1 + (nI 1))), .int (nI 0), .ref 10]) (fun _ => rfl) ?_
    obtain ⟨s1, hs1, hf⟩ := ob hf
    refine t_cv (as := [.int (nI 0), .int ((nI 52) * (x1 + (nI 1)))]) (st := []) (rfl : mfetch 177 20 = some (20, .invokevirtual 201, 3, 152, 0, 0)) rfl rfl rfl rfl rfl (ok_M_copies hs1) ?_
    refine mEnds.stp 1 (pc' := 24) (l' := [some (.ref 10), some (.int x1), none]) (st' := [.ref 10]) (fun _ => rfl) ?_
    refine t_gr (rfl : mfetch 177 24 = some (24, .getfield 34, 3, 5, 24, 0)) rfl rfl ?_
    refine mEnds.stp 1 (pc' := 28) (l' := [some (.ref 10), some (.int x1), none]) (st' := [.int x1, .ref 19]) (fun _ => rfl) ?_
    obtain ⟨j1, hj1, hf⟩ := ob hf
    refine t_ba (rfl : mfetch 177 28 = some (28, .baload, 1, 0, 0, 0)) rfl rfl rfl hj1 ?_
    by_cases hc2 : s1 19 j1 = 0
    · rw [if_pos hc2] at hf
      refine t_jT (t := 36) (rfl : mfetch 177 29 = some (29, .ifCond .eq 7, 3, 0, 0, 0)) rfl (k_eq hc2) ?_
      refine mEnds.stp 1 (pc' := 37) (l' := [some (.ref 10), some (.int x1), none]) (st' := [.int (nI 0)]) (fun _ => rfl) ?_
      refine mEnds.cut (l := [some (.ref 10), some (.int x1), none]) ⟨rfl, ⟨rfl, trivial⟩⟩ ?_
      exact ok_M_keep_37 hf
    · rw [if_neg hc2] at hf
      refine t_jF (rfl : mfetch 177 29 = some (29, .ifCond .eq 7, 3, 0, 0, 0)) (k_eq' hc2) ?_
      refine mEnds.stp 2 (pc' := 37) (l' := [some (.ref 10), some (.int x1), none]) (st' := [.int (nI 1)]) (fun _ => rfl) ?_
      refine mEnds.cut (l := [some (.ref 10), some (.int x1), none]) ⟨rfl, ⟨rfl, trivial⟩⟩ ?_
      exact ok_M_keep_37 hf
def M_back (x1 : Int32) (s : sg) : Option (Int32 × sg) :=
  (M_in x1.toInt64 (0 : Int64) (1 : Int64) s).bind fun v1 =>
  if v1 = 0 then
    some ((-1), s)
  else
    (midx x1 2).bind fun j1 =>
    if s 19 j1 = 0 then
      some ((-2), s)
    else
      (M_copies ((nI 52) * (x1 + (nI 1))) (nI 0) s).bind fun s1 =>
      (midx (nI 49) 312).bind fun j2 =>
      some (s1 11 j2, s1)
set_option maxRecDepth 100000 in
theorem ok_M_back {x1 : Int32} {s : sg} {rv : (Int32 × sg)} (hf : M_back x1 s = some rv) : mEnds [] 1 178 (0, [some (.ref 10), some (.int x1)], [], hp shM s, 0, 0) (some (.int rv.1), hp shM rv.2, 0, 0) := by
  unfold M_back at hf
  refine mEnds.stp 4 (pc' := 4) (l' := [some (.ref 10), some (.int x1)]) (st' := [.long (1 : Int64), .long (0 : Int64), .long x1.toInt64]) (fun _ => rfl) ?_
  obtain ⟨v1, hv1, hf⟩ := ob hf
  refine t_cs (as := [.long x1.toInt64, .long (0 : Int64), .long (1 : Int64)]) (st := []) (Or.inl rfl) (rfl : mfetch 178 4 = some (4, .invokestatic 49, 3, 111, 0, 0)) rfl rfl rfl (ok_M_in hv1) ?_
  by_cases hc1 : v1 = 0
  · rw [if_pos hc1] at hf
    refine t_jF (rfl : mfetch 178 7 = some (7, .ifCond .ne 5, 3, 0, 0, 0)) (k_ne' hc1) ?_
    refine mEnds.stp 1 (pc' := 11) (l' := [some (.ref 10), some (.int x1)]) (st' := [.int (-1)]) (fun _ => rfl) ?_
    exact mEnds.rti (Option.some.inj hf) (fun _ => rfl)
  · rw [if_neg hc1] at hf
    refine t_jT (t := 12) (rfl : mfetch 178 7 = some (7, .ifCond .ne 5, 3, 0, 0, 0)) rfl (k_ne hc1) ?_
    refine mEnds.stp 1 (pc' := 13) (l' := [some (.ref 10), some (.int x1)]) (st' := [.ref 10]) (fun _ => rfl) ?_
    refine t_gr (rfl : mfetch 178 13 = some (13, .getfield 34, 3, 5, 24, 0)) rfl rfl ?_
    refine mEnds.stp 1 (pc' := 17) (l' := [some (.ref 10), some (.int x1)]) (st' := [.int x1, .ref 19]) (fun _ => rfl) ?_
    obtain ⟨j1, hj1, hf⟩ := ob hf
    refine t_ba (rfl : mfetch 178 17 = some (17, .baload, 1, 0, 0, 0)) rfl rfl rfl hj1 ?_
    by_cases hc2 : s 19 j1 = 0
    · rw [if_pos hc2] at hf
      refine t_jF (rfl : mfetch 178 18 = some (18, .ifCond .ne 6, 3, 0, 0, 0)) (k_ne' hc2) ?_
      refine mEnds.stp 1 (pc' := 23) (l' := [some (.ref 10), some (.int x1)]) (st' := [.int (-2)]) (fun _ => rfl) ?_
      exact mEnds.rti (Option.some.inj hf) (fun _ => rfl)
    · rw [if_neg hc2] at hf
      refine t_jT (t := 24) (rfl : mfetch 178 18 = some (18, .ifCond .ne 6, 3, 0, 0, 0)) rfl (k_ne hc2) ?_
      refine mEnds.stp 7 (pc' := 32) (l' := [some (.ref 10), some (.int x1)]) (st' := [.int (nI 0), .int ((nI 52) * (x1 + (nI 1))), .ref 10]) (fun _ => rfl) ?_
      obtain ⟨s1, hs1, hf⟩ := ob hf
      refine t_cv (as := [.int ((nI 52) * (x1 + (nI 1))), .int (nI 0)]) (st := []) (rfl : mfetch 178 32 = some (32, .invokevirtual 201, 3, 152, 0, 0)) rfl rfl rfl rfl rfl (ok_M_copies hs1) ?_
      refine mEnds.stp 1 (pc' := 36) (l' := [some (.ref 10), some (.int x1)]) (st' := [.ref 10]) (fun _ => rfl) ?_
      refine t_gr (rfl : mfetch 178 36 = some (36, .getfield 7, 3, 5, 0, 0)) rfl rfl ?_
      refine mEnds.stp 1 (pc' := 41) (l' := [some (.ref 10), some (.int x1)]) (st' := [.int (nI 49), .ref 11]) (fun _ => rfl) ?_
      obtain ⟨j2, hj2, hf⟩ := ob hf
      refine t_ia (rfl : mfetch 178 41 = some (41, .iaload, 1, 0, 0, 0)) rfl rfl hj2 ?_
      exact mEnds.rti (Option.some.inj hf) (fun _ => rfl)
def M_sheet_56 (x1 : Int32) : Nat → Int32 → sg → Option (Int32 × sg)
  | 0, _, _ => none
  | fu + 1, x4, s =>
  if x4 < nI 40 then
    (midx (((nI 40) * x1) + x4) 160).bind fun j1 =>
    (some (up s 22 j1 (nI 0))).bind fun s1 =>
    M_sheet_56 x1 fu (x4 + (nI 1)) s1
  else
    some (nI 1, s)
set_option maxRecDepth 100000 in
theorem ok_M_sheet_56 {x1 : Int32} : ∀ (fu : Nat) (x4 : Int32) (s : sg) (rv : (Int32 × sg)), M_sheet_56 x1 fu x4 s = some rv → mEnds [] 1 179 (56, [some (.ref 10), some (.int x1), none, none, some (.int x4)], [], hp shM s, 0, 0) (some (.int rv.1), hp shM rv.2, 0, 0)
  | 0, _, _, _, hf => by cases hf
  | fu + 1, x4, s, rv, hf => by
    rw [M_sheet_56] at hf
    refine mEnds.stp 2 (pc' := 60) (l' := [some (.ref 10), some (.int x1), none, none, some (.int x4)]) (st' := [.int (nI 40), .int x4]) (fun _ => rfl) ?_
    by_cases hc1 : x4 < nI 40
    · rw [if_pos hc1] at hf
      refine t_cF (rfl : mfetch 179 60 = some (60, .if_icmp .ge 22, 3, 0, 0, 0)) (k_ge' hc1) ?_
      refine mEnds.stp 1 (pc' := 64) (l' := [some (.ref 10), some (.int x1), none, none, some (.int x4)]) (st' := [.ref 10]) (fun _ => rfl) ?_
      refine t_gr (rfl : mfetch 179 64 = some (64, .getfield 44, 3, 5, 27, 0)) rfl rfl ?_
      refine mEnds.stp 6 (pc' := 75) (l' := [some (.ref 10), some (.int x1), none, none, some (.int x4)]) (st' := [.int (nI 0), .int (((nI 40) * x1) + x4), .ref 22]) (fun _ => rfl) ?_
      obtain ⟨j1, hj1, hf⟩ := ob hf
      obtain ⟨s1, hs1, hf⟩ := ob hf
      refine t_is (rfl : mfetch 179 75 = some (75, .iastore, 1, 0, 0, 0)) rfl rfl hj1 hs1 ?_
      refine mEnds.stp 2 (pc' := 56) (l' := [some (.ref 10), some (.int x1), none, none, some (.int (x4 + (nI 1)))]) (st' := []) (fun _ => rfl) ?_
      refine mEnds.cut (l := [some (.ref 10), some (.int x1), none, none, some (.int (x4 + (nI 1)))]) ⟨rfl, ⟨rfl, ⟨rfl, trivial⟩⟩⟩ ?_
      exact ok_M_sheet_56 fu (x4 + (nI 1)) s1 _ hf
    · rw [if_neg hc1] at hf
      refine t_cT (t := 82) (rfl : mfetch 179 60 = some (60, .if_icmp .ge 22, 3, 0, 0, 0)) rfl (k_ge hc1) ?_
      refine mEnds.stp 1 (pc' := 83) (l' := [some (.ref 10), some (.int x1), none, none, some (.int x4)]) (st' := [.int (nI 1)]) (fun _ => rfl) ?_
      exact mEnds.rti (Option.some.inj hf) (fun _ => rfl)
def M_sheet (x1 : Int32) (x2 : Int32) (x3 : Int32) (s : sg) : Option (Int32 × sg) :=
  (M_in x1.toInt64 (0 : Int64) (3 : Int64) s).bind fun v1 =>
  if v1 = 0 then
    some ((-1), s)
  else
    (M_in x2.toInt64 (0 : Int64) (2 : Int64) s).bind fun v2 =>
    if v2 = 0 then
      some ((-1), s)
    else
      if nI 40 < x3 then
        some ((-1), s)
      else
        if x3 < 0 then
          some ((-14), s)
        else
          (midx x1 4).bind fun j1 =>
          (some (up s 20 j1 x2)).bind fun s1 =>
          (midx x1 4).bind fun j2 =>
          (some (up s1 21 j2 x3)).bind fun s2 =>
          M_sheet_56 x1 FU (nI 0) s2
set_option maxRecDepth 100000 in
theorem ok_M_sheet {x1 : Int32} {x2 : Int32} {x3 : Int32} {s : sg} {rv : (Int32 × sg)} (hf : M_sheet x1 x2 x3 s = some rv) : mEnds [] 1 179 (0, [some (.ref 10), some (.int x1), some (.int x2), some (.int x3), none], [], hp shM s, 0, 0) (some (.int rv.1), hp shM rv.2, 0, 0) := by
  unfold M_sheet at hf
  refine mEnds.stp 4 (pc' := 6) (l' := [some (.ref 10), some (.int x1), some (.int x2), some (.int x3), none]) (st' := [.long (3 : Int64), .long (0 : Int64), .long x1.toInt64]) (fun _ => rfl) ?_
  obtain ⟨v1, hv1, hf⟩ := ob hf
  refine t_cs (as := [.long x1.toInt64, .long (0 : Int64), .long (3 : Int64)]) (st := []) (Or.inl rfl) (rfl : mfetch 179 6 = some (6, .invokestatic 49, 3, 111, 0, 0)) rfl rfl rfl (ok_M_in hv1) ?_
  by_cases hc1 : v1 = 0
  · rw [if_pos hc1] at hf
    refine t_jT (t := 30) (rfl : mfetch 179 9 = some (9, .ifCond .eq 21, 3, 0, 0, 0)) rfl (k_eq hc1) ?_
    refine mEnds.stp 1 (pc' := 31) (l' := [some (.ref 10), some (.int x1), some (.int x2), some (.int x3), none]) (st' := [.int (-1)]) (fun _ => rfl) ?_
    exact mEnds.rti (Option.some.inj hf) (fun _ => rfl)
  · rw [if_neg hc1] at hf
    refine t_jF (rfl : mfetch 179 9 = some (9, .ifCond .eq 21, 3, 0, 0, 0)) (k_eq' hc1) ?_
    refine mEnds.stp 4 (pc' := 18) (l' := [some (.ref 10), some (.int x1), some (.int x2), some (.int x3), none]) (st' := [.long (2 : Int64), .long (0 : Int64), .long x2.toInt64]) (fun _ => rfl) ?_
    obtain ⟨v2, hv2, hf⟩ := ob hf
    refine t_cs (as := [.long x2.toInt64, .long (0 : Int64), .long (2 : Int64)]) (st := []) (Or.inl rfl) (rfl : mfetch 179 18 = some (18, .invokestatic 49, 3, 111, 0, 0)) rfl rfl rfl (ok_M_in hv2) ?_
    by_cases hc2 : v2 = 0
    · rw [if_pos hc2] at hf
      refine t_jT (t := 30) (rfl : mfetch 179 21 = some (21, .ifCond .eq 9, 3, 0, 0, 0)) rfl (k_eq hc2) ?_
      refine mEnds.stp 1 (pc' := 31) (l' := [some (.ref 10), some (.int x1), some (.int x2), some (.int x3), none]) (st' := [.int (-1)]) (fun _ => rfl) ?_
      exact mEnds.rti (Option.some.inj hf) (fun _ => rfl)
    · rw [if_neg hc2] at hf
      refine t_jF (rfl : mfetch 179 21 = some (21, .ifCond .eq 9, 3, 0, 0, 0)) (k_eq' hc2) ?_
      refine mEnds.stp 2 (pc' := 27) (l' := [some (.ref 10), some (.int x1), some (.int x2), some (.int x3), none]) (st' := [.int (nI 40), .int x3]) (fun _ => rfl) ?_
      by_cases hc3 : nI 40 < x3
      · rw [if_pos hc3] at hf
        refine t_cF (rfl : mfetch 179 27 = some (27, .if_icmp .le 5, 3, 0, 0, 0)) (k_le' hc3) ?_
        refine mEnds.stp 1 (pc' := 31) (l' := [some (.ref 10), some (.int x1), some (.int x2), some (.int x3), none]) (st' := [.int (-1)]) (fun _ => rfl) ?_
        exact mEnds.rti (Option.some.inj hf) (fun _ => rfl)
      · rw [if_neg hc3] at hf
        refine t_cT (t := 32) (rfl : mfetch 179 27 = some (27, .if_icmp .le 5, 3, 0, 0, 0)) rfl (k_le hc3) ?_
        refine mEnds.stp 1 (pc' := 33) (l' := [some (.ref 10), some (.int x1), some (.int x2), some (.int x3), none]) (st' := [.int x3]) (fun _ => rfl) ?_
        by_cases hc4 : x3 < 0
        · rw [if_pos hc4] at hf
          refine t_jF (rfl : mfetch 179 33 = some (33, .ifCond .ge 6, 3, 0, 0, 0)) (k_ge' hc4) ?_
          refine mEnds.stp 1 (pc' := 38) (l' := [some (.ref 10), some (.int x1), some (.int x2), some (.int x3), none]) (st' := [.int (-14)]) (fun _ => rfl) ?_
          exact mEnds.rti (Option.some.inj hf) (fun _ => rfl)
        · rw [if_neg hc4] at hf
          refine t_jT (t := 39) (rfl : mfetch 179 33 = some (33, .ifCond .ge 6, 3, 0, 0, 0)) rfl (k_ge hc4) ?_
          refine mEnds.stp 1 (pc' := 40) (l' := [some (.ref 10), some (.int x1), some (.int x2), some (.int x3), none]) (st' := [.ref 10]) (fun _ => rfl) ?_
          refine t_gr (rfl : mfetch 179 40 = some (40, .getfield 38, 3, 5, 25, 0)) rfl rfl ?_
          refine mEnds.stp 2 (pc' := 45) (l' := [some (.ref 10), some (.int x1), some (.int x2), some (.int x3), none]) (st' := [.int x2, .int x1, .ref 20]) (fun _ => rfl) ?_
          obtain ⟨j1, hj1, hf⟩ := ob hf
          obtain ⟨s1, hs1, hf⟩ := ob hf
          refine t_is (rfl : mfetch 179 45 = some (45, .iastore, 1, 0, 0, 0)) rfl rfl hj1 hs1 ?_
          refine mEnds.stp 1 (pc' := 47) (l' := [some (.ref 10), some (.int x1), some (.int x2), some (.int x3), none]) (st' := [.ref 10]) (fun _ => rfl) ?_
          refine t_gr (rfl : mfetch 179 47 = some (47, .getfield 41, 3, 5, 26, 0)) rfl rfl ?_
          refine mEnds.stp 2 (pc' := 52) (l' := [some (.ref 10), some (.int x1), some (.int x2), some (.int x3), none]) (st' := [.int x3, .int x1, .ref 21]) (fun _ => rfl) ?_
          obtain ⟨j2, hj2, hf⟩ := ob hf
          obtain ⟨s2, hs2, hf⟩ := ob hf
          refine t_is (rfl : mfetch 179 52 = some (52, .iastore, 1, 0, 0, 0)) rfl rfl hj2 hs2 ?_
          refine mEnds.stp 2 (pc' := 56) (l' := [some (.ref 10), some (.int x1), some (.int x2), some (.int x3), some (.int (nI 0))]) (st' := []) (fun _ => rfl) ?_
          refine mEnds.cut (l := [some (.ref 10), some (.int x1), none, none, some (.int (nI 0))]) ⟨rfl, ⟨rfl, ⟨rfl, trivial⟩⟩⟩ ?_
          exact ok_M_sheet_56 FU (nI 0) s2 _ hf
end Q31h
section Q31i
def M_lay_99 (y0 : Int32) (y1 : Int32) (s : sg) : Option (Int32 × sg) :=
  (midx y1 160).bind fun j1 =>
  (some (up s 22 j1 y0)).bind fun s1 =>
  some (nI 1, s1)
set_option maxRecDepth 100000 in
theorem ok_M_lay_99 {y0 : Int32} {y1 : Int32} {s : sg} {rv : (Int32 × sg)} (hf : M_lay_99 y0 y1 s = some rv) : mEnds [] 1 180 (99, [none, none, none, none], [.int y0, .int y1, .ref 22], hp shM s, 0, 0) (some (.int rv.1), hp shM rv.2, 0, 0) := by
  unfold M_lay_99 at hf
  obtain ⟨j1, hj1, hf⟩ := ob hf
  obtain ⟨s1, hs1, hf⟩ := ob hf
  refine t_is (rfl : mfetch 180 99 = some (99, .iastore, 1, 0, 0, 0)) rfl rfl hj1 hs1 ?_
  refine mEnds.stp 1 (pc' := 101) (l' := [none, none, none, none]) (st' := [.int (nI 1)]) (fun _ => rfl) ?_
  exact mEnds.rti (Option.some.inj hf) (fun _ => rfl)
def M_lay (x1 : Int32) (x2 : Int32) (x3 : Int32) (s : sg) : Option (Int32 × sg) :=
  (M_in x1.toInt64 (0 : Int64) (3 : Int64) s).bind fun v1 =>
  if v1 = 0 then
    some ((-1), s)
  else
    (midx x1 4).bind fun j1 =>
    if s 20 j1 = (-4) then
      some ((-11), s)
    else
      (midx x1 4).bind fun j2 =>
      (M_in x2.toInt64 (0 : Int64) (((s 21 j2) - (nI 1)).toInt64) s).bind fun v2 =>
      if v2 = 0 then
        some ((-12), s)
      else
        (midx x1 4).bind fun j3 =>
        if s 20 j3 = 0 then
          M_lay_99 ((x3 <<< ((nI 24) &&& 31)) >>> ((nI 24) &&& 31)) (((nI 40) * x1) + x2) s
        else
          (midx x1 4).bind fun j4 =>
          if s 20 j4 = nI 1 then
            M_lay_99 ((x3 <<< ((nI 16) &&& 31)) >>> ((nI 16) &&& 31)) (((nI 40) * x1) + x2) s
          else
            M_lay_99 x3 (((nI 40) * x1) + x2) s
set_option maxRecDepth 100000 in
theorem ok_M_lay {x1 : Int32} {x2 : Int32} {x3 : Int32} {s : sg} {rv : (Int32 × sg)} (hf : M_lay x1 x2 x3 s = some rv) : mEnds [] 1 180 (0, [some (.ref 10), some (.int x1), some (.int x2), some (.int x3)], [], hp shM s, 0, 0) (some (.int rv.1), hp shM rv.2, 0, 0) := by
  unfold M_lay at hf
  refine mEnds.stp 4 (pc' := 6) (l' := [some (.ref 10), some (.int x1), some (.int x2), some (.int x3)]) (st' := [.long (3 : Int64), .long (0 : Int64), .long x1.toInt64]) (fun _ => rfl) ?_
  obtain ⟨v1, hv1, hf⟩ := ob hf
  refine t_cs (as := [.long x1.toInt64, .long (0 : Int64), .long (3 : Int64)]) (st := []) (Or.inl rfl) (rfl : mfetch 180 6 = some (6, .invokestatic 49, 3, 111, 0, 0)) rfl rfl rfl (ok_M_in hv1) ?_
  by_cases hc1 : v1 = 0
  · rw [if_pos hc1] at hf
    refine t_jF (rfl : mfetch 180 9 = some (9, .ifCond .ne 5, 3, 0, 0, 0)) (k_ne' hc1) ?_
    refine mEnds.stp 1 (pc' := 13) (l' := [some (.ref 10), some (.int x1), some (.int x2), some (.int x3)]) (st' := [.int (-1)]) (fun _ => rfl) ?_
    exact mEnds.rti (Option.some.inj hf) (fun _ => rfl)
  · rw [if_neg hc1] at hf
    refine t_jT (t := 14) (rfl : mfetch 180 9 = some (9, .ifCond .ne 5, 3, 0, 0, 0)) rfl (k_ne hc1) ?_
    refine mEnds.stp 1 (pc' := 15) (l' := [some (.ref 10), some (.int x1), some (.int x2), some (.int x3)]) (st' := [.ref 10]) (fun _ => rfl) ?_
    refine t_gr (rfl : mfetch 180 15 = some (15, .getfield 38, 3, 5, 25, 0)) rfl rfl ?_
    refine mEnds.stp 1 (pc' := 19) (l' := [some (.ref 10), some (.int x1), some (.int x2), some (.int x3)]) (st' := [.int x1, .ref 20]) (fun _ => rfl) ?_
    obtain ⟨j1, hj1, hf⟩ := ob hf
    refine t_ia (rfl : mfetch 180 19 = some (19, .iaload, 1, 0, 0, 0)) rfl rfl hj1 ?_
    refine mEnds.stp 1 (pc' := 22) (l' := [some (.ref 10), some (.int x1), some (.int x2), some (.int x3)]) (st' := [.int (-4), .int (s 20 j1)]) (fun _ => rfl) ?_
    by_cases hc2 : s 20 j1 = (-4)
    · rw [if_pos hc2] at hf
      refine t_cF (rfl : mfetch 180 22 = some (22, .if_icmp .ne 6, 3, 0, 0, 0)) (k_ne' hc2) ?_
      refine mEnds.stp 1 (pc' := 27) (l' := [some (.ref 10), some (.int x1), some (.int x2), some (.int x3)]) (st' := [.int (-11)]) (fun _ => rfl) ?_
      exact mEnds.rti (Option.some.inj hf) (fun _ => rfl)
    · rw [if_neg hc2] at hf
      refine t_cT (t := 28) (rfl : mfetch 180 22 = some (22, .if_icmp .ne 6, 3, 0, 0, 0)) rfl (k_ne hc2) ?_
      refine mEnds.stp 4 (pc' := 32) (l' := [some (.ref 10), some (.int x1), some (.int x2), some (.int x3)]) (st' := [.ref 10, .long (0 : Int64), .long x2.toInt64]) (fun _ => rfl) ?_
      refine t_gr (rfl : mfetch 180 32 = some (32, .getfield 41, 3, 5, 26, 0)) rfl rfl ?_
      refine mEnds.stp 1 (pc' := 36) (l' := [some (.ref 10), some (.int x1), some (.int x2), some (.int x3)]) (st' := [.int x1, .ref 21, .long (0 : Int64), .long x2.toInt64]) (fun _ => rfl) ?_
      obtain ⟨j2, hj2, hf⟩ := ob hf
      refine t_ia (rfl : mfetch 180 36 = some (36, .iaload, 1, 0, 0, 0)) rfl rfl hj2 ?_
      refine mEnds.stp 3 (pc' := 40) (l' := [some (.ref 10), some (.int x1), some (.int x2), some (.int x3)]) (st' := [.long (((s 21 j2) - (nI 1)).toInt64), .long (0 : Int64), .long x2.toInt64]) (fun _ => rfl) ?_
      obtain ⟨v2, hv2, hf⟩ := ob hf
      refine t_cs (as := [.long x2.toInt64, .long (0 : Int64), .long (((s 21 j2) - (nI 1)).toInt64)]) (st := []) (Or.inl rfl) (rfl : mfetch 180 40 = some (40, .invokestatic 49, 3, 111, 0, 0)) rfl rfl rfl (ok_M_in hv2) ?_
      by_cases hc3 : v2 = 0
      · rw [if_pos hc3] at hf
        refine t_jF (rfl : mfetch 180 43 = some (43, .ifCond .ne 6, 3, 0, 0, 0)) (k_ne' hc3) ?_
        refine mEnds.stp 1 (pc' := 48) (l' := [some (.ref 10), some (.int x1), some (.int x2), some (.int x3)]) (st' := [.int (-12)]) (fun _ => rfl) ?_
        exact mEnds.rti (Option.some.inj hf) (fun _ => rfl)
      · rw [if_neg hc3] at hf
        refine t_jT (t := 49) (rfl : mfetch 180 43 = some (43, .ifCond .ne 6, 3, 0, 0, 0)) rfl (k_ne hc3) ?_
        refine mEnds.stp 1 (pc' := 50) (l' := [some (.ref 10), some (.int x1), some (.int x2), some (.int x3)]) (st' := [.ref 10]) (fun _ => rfl) ?_
        refine t_gr (rfl : mfetch 180 50 = some (50, .getfield 44, 3, 5, 27, 0)) rfl rfl ?_
        refine mEnds.stp 6 (pc' := 60) (l' := [some (.ref 10), some (.int x1), some (.int x2), some (.int x3)]) (st' := [.ref 10, .int (((nI 40) * x1) + x2), .ref 22]) (fun _ => rfl) ?_
        refine t_gr (rfl : mfetch 180 60 = some (60, .getfield 38, 3, 5, 25, 0)) rfl rfl ?_
        refine mEnds.stp 1 (pc' := 64) (l' := [some (.ref 10), some (.int x1), some (.int x2), some (.int x3)]) (st' := [.int x1, .ref 20, .int (((nI 40) * x1) + x2), .ref 22]) (fun _ => rfl) ?_
        obtain ⟨j3, hj3, hf⟩ := ob hf
        refine t_ia (rfl : mfetch 180 64 = some (64, .iaload, 1, 0, 0, 0)) rfl rfl hj3 ?_
        by_cases hc4 : s 20 j3 = 0
        · rw [if_pos hc4] at hf
          refine t_jF (rfl : mfetch 180 65 = some (65, .ifCond .ne 13, 3, 0, 0, 0)) (k_ne' hc4) ?_
          refine mEnds.stp 6 (pc' := 99) (l' := [some (.ref 10), some (.int x1), some (.int x2), some (.int x3)]) (st' := [.int ((x3 <<< ((nI 24) &&& 31)) >>> ((nI 24) &&& 31)), .int (((nI 40) * x1) + x2), .ref 22]) (fun _ => rfl) ?_
          refine mEnds.cut (l := [none, none, none, none]) trivial ?_
          exact ok_M_lay_99 hf
        · rw [if_neg hc4] at hf
          refine t_jT (t := 78) (rfl : mfetch 180 65 = some (65, .ifCond .ne 13, 3, 0, 0, 0)) rfl (k_ne hc4) ?_
          refine mEnds.stp 1 (pc' := 79) (l' := [some (.ref 10), some (.int x1), some (.int x2), some (.int x3)]) (st' := [.ref 10, .int (((nI 40) * x1) + x2), .ref 22]) (fun _ => rfl) ?_
          refine t_gr (rfl : mfetch 180 79 = some (79, .getfield 38, 3, 5, 25, 0)) rfl rfl ?_
          refine mEnds.stp 1 (pc' := 83) (l' := [some (.ref 10), some (.int x1), some (.int x2), some (.int x3)]) (st' := [.int x1, .ref 20, .int (((nI 40) * x1) + x2), .ref 22]) (fun _ => rfl) ?_
          obtain ⟨j4, hj4, hf⟩ := ob hf
          refine t_ia (rfl : mfetch 180 83 = some (83, .iaload, 1, 0, 0, 0)) rfl rfl hj4 ?_
          refine mEnds.stp 1 (pc' := 85) (l' := [some (.ref 10), some (.int x1), some (.int x2), some (.int x3)]) (st' := [.int (nI 1), .int (s 20 j4), .int (((nI 40) * x1) + x2), .ref 22]) (fun _ => rfl) ?_
          by_cases hc5 : s 20 j4 = nI 1
          · rw [if_pos hc5] at hf
            refine t_cF (rfl : mfetch 180 85 = some (85, .if_icmp .ne 13, 3, 0, 0, 0)) (k_ne' hc5) ?_
            refine mEnds.stp 6 (pc' := 99) (l' := [some (.ref 10), some (.int x1), some (.int x2), some (.int x3)]) (st' := [.int ((x3 <<< ((nI 16) &&& 31)) >>> ((nI 16) &&& 31)), .int (((nI 40) * x1) + x2), .ref 22]) (fun _ => rfl) ?_
            refine mEnds.cut (l := [none, none, none, none]) trivial ?_
            exact ok_M_lay_99 hf
          · rw [if_neg hc5] at hf
            refine t_cT (t := 98) (rfl : mfetch 180 85 = some (85, .if_icmp .ne 13, 3, 0, 0, 0)) rfl (k_ne hc5) ?_
            refine mEnds.stp 1 (pc' := 99) (l' := [some (.ref 10), some (.int x1), some (.int x2), some (.int x3)]) (st' := [.int x3, .int (((nI 40) * x1) + x2), .ref 22]) (fun _ => rfl) ?_
            refine mEnds.cut (l := [none, none, none, none]) trivial ?_
            exact ok_M_lay_99 hf
def M_read_193 (k56 : Int32 → Int32 → Int32 → sg → Option (Int32 × sg)) (x1 : Int32) (x2 : Int32) (x3 : Int32) (x4 : Int32) (x5 : Int32) (x6 : Int32) (x7 : Int32) (y0 : Int32) (s : sg) : Option (Int32 × sg) :=
  if y0 = 0 then
    (M_copies (nI 156) (nI 0) s).bind fun s2 =>
    some ((-20) - x6, s2)
  else
    (M_goesOn (nI 0) s).bind fun s1 =>
    k56 x5 (x6 + (nI 1)) (x7 + (nI 1)) s1
set_option maxRecDepth 100000 in
theorem ok_M_read_193 {k56 : Int32 → Int32 → Int32 → sg → Option (Int32 × sg)} {x1 : Int32} {x2 : Int32} {x3 : Int32} {x4 : Int32} {x5 : Int32} {x6 : Int32} {x7 : Int32} {y0 : Int32} {s : sg} {rv : (Int32 × sg)} (hk56 : ∀ (x5 : Int32) (x6 : Int32) (x7 : Int32) (s : sg) (rv : (Int32 × sg)), k56 x5 x6 x7 s = some rv → mEnds [] 4 181 (56, [some (.ref 10), some (.int x1), some (.int x2), some (.int x3), some (.int x4), some (.int x5), some (.int x6), some (.int x7), none, none], [], hp shM s, 0, 0) (some (.int rv.1), hp shM rv.2, 0, 0)) (hf : M_read_193 k56 x1 x2 x3 x4 x5 x6 x7 y0 s = some rv) : mEnds [] 4 181 (193, [some (.ref 10), some (.int x1), some (.int x2), some (.int x3), some (.int x4), some (.int x5), some (.int x6), some (.int x7), none, none], [.int y0], hp shM s, 0, 0) (some (.int rv.1), hp shM rv.2, 0, 0) := by
  unfold M_read_193 at hf
  refine mEnds.stp 2 (pc' := 197) (l' := [some (.ref 10), some (.int x1), some (.int x2), some (.int x3), some (.int x4), some (.int x5), some (.int x6), some (.int x7), none, some (.int y0)]) (st' := [.int y0]) (fun _ => rfl) ?_
  by_cases hc1 : y0 = 0
  · rw [if_pos hc1] at hf
    refine t_jF (rfl : mfetch 181 197 = some (197, .ifCond .ne 17, 3, 0, 0, 0)) (k_ne' hc1) ?_
    refine mEnds.stp 3 (pc' := 205) (l' := [some (.ref 10), some (.int x1), some (.int x2), some (.int x3), some (.int x4), some (.int x5), some (.int x6), some (.int x7), none, some (.int y0)]) (st' := [.int (nI 0), .int (nI 156), .ref 10]) (fun _ => rfl) ?_
    obtain ⟨s2, hs2, hf⟩ := ob hf
    refine t_cv (as := [.int (nI 156), .int (nI 0)]) (st := []) (rfl : mfetch 181 205 = some (205, .invokevirtual 201, 3, 152, 0, 0)) rfl rfl rfl rfl rfl ((ok_M_copies hs2).deep 3) ?_
    refine mEnds.stp 3 (pc' := 213) (l' := [some (.ref 10), some (.int x1), some (.int x2), some (.int x3), some (.int x4), some (.int x5), some (.int x6), some (.int x7), none, some (.int y0)]) (st' := [.int ((-20) - x6)]) (fun _ => rfl) ?_
    exact mEnds.rti (Option.some.inj hf) (fun _ => rfl)
  · rw [if_neg hc1] at hf
    refine t_jT (t := 214) (rfl : mfetch 181 197 = some (197, .ifCond .ne 17, 3, 0, 0, 0)) rfl (k_ne hc1) ?_
    refine mEnds.stp 2 (pc' := 216) (l' := [some (.ref 10), some (.int x1), some (.int x2), some (.int x3), some (.int x4), some (.int x5), some (.int x6), some (.int x7), none, some (.int y0)]) (st' := [.int (nI 0), .ref 10]) (fun _ => rfl) ?_
    obtain ⟨s1, hs1, hf⟩ := ob hf
    refine t_cv (as := [.int (nI 0)]) (st := []) (rfl : mfetch 181 216 = some (216, .invokevirtual 198, 3, 134, 0, 0)) rfl rfl rfl rfl rfl (ok_M_goesOn hs1) ?_
    refine mEnds.stp 3 (pc' := 56) (l' := [some (.ref 10), some (.int x1), some (.int x2), some (.int x3), some (.int x4), some (.int x5), some (.int (x6 + (nI 1))), some (.int (x7 + (nI 1))), none, some (.int y0)]) (st' := []) (fun _ => rfl) ?_
    refine mEnds.cut (l := [some (.ref 10), some (.int x1), some (.int x2), some (.int x3), some (.int x4), some (.int x5), some (.int (x6 + (nI 1))), some (.int (x7 + (nI 1))), none, none]) ⟨rfl, ⟨rfl, ⟨rfl, ⟨rfl, ⟨rfl, ⟨rfl, ⟨rfl, ⟨rfl, trivial⟩⟩⟩⟩⟩⟩⟩⟩ ?_
    exact hk56 x5 (x6 + (nI 1)) (x7 + (nI 1)) s1 _ hf
def M_read_192 (k56 : Int32 → Int32 → Int32 → sg → Option (Int32 × sg)) (x1 : Int32) (x2 : Int32) (x3 : Int32) (x4 : Int32) (x5 : Int32) (x6 : Int32) (x7 : Int32) (s : sg) : Option (Int32 × sg) :=
  M_read_193 k56 x1 x2 x3 x4 x5 x6 x7 (nI 0) s
set_option maxRecDepth 100000 in
theorem ok_M_read_192 {k56 : Int32 → Int32 → Int32 → sg → Option (Int32 × sg)} {x1 : Int32} {x2 : Int32} {x3 : Int32} {x4 : Int32} {x5 : Int32} {x6 : Int32} {x7 : Int32} {s : sg} {rv : (Int32 × sg)} (hk56 : ∀ (x5 : Int32) (x6 : Int32) (x7 : Int32) (s : sg) (rv : (Int32 × sg)), k56 x5 x6 x7 s = some rv → mEnds [] 4 181 (56, [some (.ref 10), some (.int x1), some (.int x2), some (.int x3), some (.int x4), some (.int x5), some (.int x6), some (.int x7), none, none], [], hp shM s, 0, 0) (some (.int rv.1), hp shM rv.2, 0, 0)) (hf : M_read_192 k56 x1 x2 x3 x4 x5 x6 x7 s = some rv) : mEnds [] 4 181 (192, [some (.ref 10), some (.int x1), some (.int x2), some (.int x3), some (.int x4), some (.int x5), some (.int x6), some (.int x7), none, none], [], hp shM s, 0, 0) (some (.int rv.1), hp shM rv.2, 0, 0) := by
  unfold M_read_192 at hf
  refine mEnds.stp 1 (pc' := 193) (l' := [some (.ref 10), some (.int x1), some (.int x2), some (.int x3), some (.int x4), some (.int x5), some (.int x6), some (.int x7), none, none]) (st' := [.int (nI 0)]) (fun _ => rfl) ?_
  refine mEnds.cut (l := [some (.ref 10), some (.int x1), some (.int x2), some (.int x3), some (.int x4), some (.int x5), some (.int x6), some (.int x7), none, none]) ⟨rfl, ⟨rfl, ⟨rfl, ⟨rfl, ⟨rfl, ⟨rfl, ⟨rfl, ⟨rfl, trivial⟩⟩⟩⟩⟩⟩⟩⟩ ?_
  exact ok_M_read_193 hk56 hf
def M_read_126 (k56 : Int32 → Int32 → Int32 → sg → Option (Int32 × sg)) (x1 : Int32) (x2 : Int32) (x3 : Int32) (x4 : Int32) (x6 : Int32) (x7 : Int32) (y0 : Int32) (s : sg) : Option (Int32 × sg) :=
  if y0 = 0 then
    if x7 - x7 / (nI 2) * (nI 2) = nI 1 then
      (midx (((((nI 40) * x1) + x3) + x7) - (nI 1)) 160).bind fun j1 =>
      (midx ((((nI 40) * x1) + x3) + x7) 160).bind fun j2 =>
      (M_marks (s 22 j1) (s 22 j2) s).bind fun v1 =>
      if v1.1 < 0 then
        M_read_192 k56 x1 x2 x3 x4 y0 x6 x7 v1.2
      else
        (midx (nI 49) 312).bind fun j3 =>
        if v1.2 11 j3 < nI 999 then
          M_read_193 k56 x1 x2 x3 x4 y0 x6 x7 (nI 1) v1.2
        else
          M_read_192 k56 x1 x2 x3 x4 y0 x6 x7 v1.2
    else
      k56 y0 x6 (x7 + (nI 1)) s
  else
    k56 y0 x6 (x7 + (nI 1)) s
set_option maxRecDepth 100000 in
theorem ok_M_read_126 {k56 : Int32 → Int32 → Int32 → sg → Option (Int32 × sg)} {x1 : Int32} {x2 : Int32} {x3 : Int32} {x4 : Int32} {x6 : Int32} {x7 : Int32} {y0 : Int32} {s : sg} {rv : (Int32 × sg)} (hk56 : ∀ (x5 : Int32) (x6 : Int32) (x7 : Int32) (s : sg) (rv : (Int32 × sg)), k56 x5 x6 x7 s = some rv → mEnds [] 4 181 (56, [some (.ref 10), some (.int x1), some (.int x2), some (.int x3), some (.int x4), some (.int x5), some (.int x6), some (.int x7), none, none], [], hp shM s, 0, 0) (some (.int rv.1), hp shM rv.2, 0, 0)) (hf : M_read_126 k56 x1 x2 x3 x4 x6 x7 y0 s = some rv) : mEnds [] 4 181 (126, [some (.ref 10), some (.int x1), some (.int x2), some (.int x3), some (.int x4), none, some (.int x6), some (.int x7), none, none], [.int y0], hp shM s, 0, 0) (some (.int rv.1), hp shM rv.2, 0, 0) := by
  unfold M_read_126 at hf
  refine mEnds.stp 2 (pc' := 130) (l' := [some (.ref 10), some (.int x1), some (.int x2), some (.int x3), some (.int x4), some (.int y0), some (.int x6), some (.int x7), none, none]) (st' := [.int y0]) (fun _ => rfl) ?_
  by_cases hc1 : y0 = 0
  · rw [if_pos hc1] at hf
    refine t_jF (rfl : mfetch 181 130 = some (130, .ifCond .ne 92, 3, 0, 0, 0)) (k_ne' hc1) ?_
    refine mEnds.stp 4 (pc' := 138) (l' := [some (.ref 10), some (.int x1), some (.int x2), some (.int x3), some (.int x4), some (.int y0), some (.int x6), some (.int x7), none, none]) (st' := [.int (nI 1), .int (x7 - x7 / (nI 2) * (nI 2))]) (fun _ => rfl) ?_
    by_cases hc2 : x7 - x7 / (nI 2) * (nI 2) = nI 1
    · rw [if_pos hc2] at hf
      refine t_cF (rfl : mfetch 181 138 = some (138, .if_icmp .ne 84, 3, 0, 0, 0)) (k_ne' hc2) ?_
      refine mEnds.stp 10 (pc' := 154) (l' := [some (.ref 10), some (.int x1), some (.int x2), some (.int x3), some (.int x4), some (.int y0), some (.int x6), some (.int x7), some (.int ((((nI 40) * x1) + x3) + x7)), none]) (st' := [.ref 10, .ref 10]) (fun _ => rfl) ?_
      refine t_gr (rfl : mfetch 181 154 = some (154, .getfield 44, 3, 5, 27, 0)) rfl rfl ?_
      refine mEnds.stp 3 (pc' := 161) (l' := [some (.ref 10), some (.int x1), some (.int x2), some (.int x3), some (.int x4), some (.int y0), some (.int x6), some (.int x7), some (.int ((((nI 40) * x1) + x3) + x7)), none]) (st' := [.int (((((nI 40) * x1) + x3) + x7) - (nI 1)), .ref 22, .ref 10]) (fun _ => rfl) ?_
      obtain ⟨j1, hj1, hf⟩ := ob hf
      refine t_ia (rfl : mfetch 181 161 = some (161, .iaload, 1, 0, 0, 0)) rfl rfl hj1 ?_
      refine mEnds.stp 1 (pc' := 163) (l' := [some (.ref 10), some (.int x1), some (.int x2), some (.int x3), some (.int x4), some (.int y0), some (.int x6), some (.int x7), some (.int ((((nI 40) * x1) + x3) + x7)), none]) (st' := [.ref 10, .int (s 22 j1), .ref 10]) (fun _ => rfl) ?_
      refine t_gr (rfl : mfetch 181 163 = some (163, .getfield 44, 3, 5, 27, 0)) rfl rfl ?_
      refine mEnds.stp 1 (pc' := 168) (l' := [some (.ref 10), some (.int x1), some (.int x2), some (.int x3), some (.int x4), some (.int y0), some (.int x6), some (.int x7), some (.int ((((nI 40) * x1) + x3) + x7)), none]) (st' := [.int ((((nI 40) * x1) + x3) + x7), .ref 22, .int (s 22 j1), .ref 10]) (fun _ => rfl) ?_
      obtain ⟨j2, hj2, hf⟩ := ob hf
      refine t_ia (rfl : mfetch 181 168 = some (168, .iaload, 1, 0, 0, 0)) rfl rfl hj2 ?_
      obtain ⟨v1, hv1, hf⟩ := ob hf
      refine t_cv (as := [.int (s 22 j1), .int (s 22 j2)]) (st := []) (rfl : mfetch 181 169 = some (169, .invokevirtual 195, 3, 147, 0, 0)) rfl rfl rfl rfl rfl ((ok_M_marks hv1).deep 1) ?_
      by_cases hc3 : v1.1 < 0
      · rw [if_pos hc3] at hf
        refine t_jT (t := 192) (rfl : mfetch 181 172 = some (172, .ifCond .lt 20, 3, 0, 0, 0)) rfl (k_lt hc3) ?_
        refine mEnds.cut (l := [some (.ref 10), some (.int x1), some (.int x2), some (.int x3), some (.int x4), some (.int y0), some (.int x6), some (.int x7), none, none]) ⟨rfl, ⟨rfl, ⟨rfl, ⟨rfl, ⟨rfl, ⟨rfl, ⟨rfl, ⟨rfl, trivial⟩⟩⟩⟩⟩⟩⟩⟩ ?_
        exact ok_M_read_192 hk56 hf
      · rw [if_neg hc3] at hf
        refine t_jF (rfl : mfetch 181 172 = some (172, .ifCond .lt 20, 3, 0, 0, 0)) (k_lt' hc3) ?_
        refine mEnds.stp 1 (pc' := 176) (l' := [some (.ref 10), some (.int x1), some (.int x2), some (.int x3), some (.int x4), some (.int y0), some (.int x6), some (.int x7), some (.int ((((nI 40) * x1) + x3) + x7)), none]) (st' := [.ref 10]) (fun _ => rfl) ?_
        refine t_gr (rfl : mfetch 181 176 = some (176, .getfield 7, 3, 5, 0, 0)) rfl rfl ?_
        refine mEnds.stp 1 (pc' := 181) (l' := [some (.ref 10), some (.int x1), some (.int x2), some (.int x3), some (.int x4), some (.int y0), some (.int x6), some (.int x7), some (.int ((((nI 40) * x1) + x3) + x7)), none]) (st' := [.int (nI 49), .ref 11]) (fun _ => rfl) ?_
        obtain ⟨j3, hj3, hf⟩ := ob hf
        refine t_ia (rfl : mfetch 181 181 = some (181, .iaload, 1, 0, 0, 0)) rfl rfl hj3 ?_
        refine mEnds.stp 1 (pc' := 185) (l' := [some (.ref 10), some (.int x1), some (.int x2), some (.int x3), some (.int x4), some (.int y0), some (.int x6), some (.int x7), some (.int ((((nI 40) * x1) + x3) + x7)), none]) (st' := [.int (nI 999), .int (v1.2 11 j3)]) (fun _ => rfl) ?_
        by_cases hc4 : v1.2 11 j3 < nI 999
        · rw [if_pos hc4] at hf
          refine t_cF (rfl : mfetch 181 185 = some (185, .if_icmp .ge 7, 3, 0, 0, 0)) (k_ge' hc4) ?_
          refine mEnds.stp 2 (pc' := 193) (l' := [some (.ref 10), some (.int x1), some (.int x2), some (.int x3), some (.int x4), some (.int y0), some (.int x6), some (.int x7), some (.int ((((nI 40) * x1) + x3) + x7)), none]) (st' := [.int (nI 1)]) (fun _ => rfl) ?_
          refine mEnds.cut (l := [some (.ref 10), some (.int x1), some (.int x2), some (.int x3), some (.int x4), some (.int y0), some (.int x6), some (.int x7), none, none]) ⟨rfl, ⟨rfl, ⟨rfl, ⟨rfl, ⟨rfl, ⟨rfl, ⟨rfl, ⟨rfl, trivial⟩⟩⟩⟩⟩⟩⟩⟩ ?_
          exact ok_M_read_193 hk56 hf
        · rw [if_neg hc4] at hf
          refine t_cT (t := 192) (rfl : mfetch 181 185 = some (185, .if_icmp .ge 7, 3, 0, 0, 0)) rfl (k_ge hc4) ?_
          refine mEnds.cut (l := [some (.ref 10), some (.int x1), some (.int x2), some (.int x3), some (.int x4), some (.int y0), some (.int x6), some (.int x7), none, none]) ⟨rfl, ⟨rfl, ⟨rfl, ⟨rfl, ⟨rfl, ⟨rfl, ⟨rfl, ⟨rfl, trivial⟩⟩⟩⟩⟩⟩⟩⟩ ?_
          exact ok_M_read_192 hk56 hf
    · rw [if_neg hc2] at hf
      refine t_cT (t := 222) (rfl : mfetch 181 138 = some (138, .if_icmp .ne 84, 3, 0, 0, 0)) rfl (k_ne hc2) ?_
      refine mEnds.stp 2 (pc' := 56) (l' := [some (.ref 10), some (.int x1), some (.int x2), some (.int x3), some (.int x4), some (.int y0), some (.int x6), some (.int (x7 + (nI 1))), none, none]) (st' := []) (fun _ => rfl) ?_
      refine mEnds.cut (l := [some (.ref 10), some (.int x1), some (.int x2), some (.int x3), some (.int x4), some (.int y0), some (.int x6), some (.int (x7 + (nI 1))), none, none]) ⟨rfl, ⟨rfl, ⟨rfl, ⟨rfl, ⟨rfl, ⟨rfl, ⟨rfl, ⟨rfl, trivial⟩⟩⟩⟩⟩⟩⟩⟩ ?_
      exact hk56 y0 x6 (x7 + (nI 1)) s _ hf
  · rw [if_neg hc1] at hf
    refine t_jT (t := 222) (rfl : mfetch 181 130 = some (130, .ifCond .ne 92, 3, 0, 0, 0)) rfl (k_ne hc1) ?_
    refine mEnds.stp 2 (pc' := 56) (l' := [some (.ref 10), some (.int x1), some (.int x2), some (.int x3), some (.int x4), some (.int y0), some (.int x6), some (.int (x7 + (nI 1))), none, none]) (st' := []) (fun _ => rfl) ?_
    refine mEnds.cut (l := [some (.ref 10), some (.int x1), some (.int x2), some (.int x3), some (.int x4), some (.int y0), some (.int x6), some (.int (x7 + (nI 1))), none, none]) ⟨rfl, ⟨rfl, ⟨rfl, ⟨rfl, ⟨rfl, ⟨rfl, ⟨rfl, ⟨rfl, trivial⟩⟩⟩⟩⟩⟩⟩⟩ ?_
    exact hk56 y0 x6 (x7 + (nI 1)) s _ hf
def M_read_228 (x5 : Int32) (x6 : Int32) (s : sg) : Option (Int32 × sg) :=
  (some (up s 10 28 x5)).bind fun s1 =>
  some (x6, s1)
set_option maxRecDepth 100000 in
theorem ok_M_read_228 {x5 : Int32} {x6 : Int32} {s : sg} {rv : (Int32 × sg)} (hf : M_read_228 x5 x6 s = some rv) : mEnds [] 4 181 (228, [some (.ref 10), none, none, none, none, some (.int x5), some (.int x6), none, none, none], [], hp shM s, 0, 0) (some (.int rv.1), hp shM rv.2, 0, 0) := by
  unfold M_read_228 at hf
  refine mEnds.stp 2 (pc' := 231) (l' := [some (.ref 10), none, none, none, none, some (.int x5), some (.int x6), none, none, none]) (st' := [.int x5, .ref 10]) (fun _ => rfl) ?_
  obtain ⟨s1, hs1, hf⟩ := ob hf
  refine t_pi (rfl : mfetch 181 231 = some (231, .putfield 250, 3, 5, 28, 0)) rfl rfl rfl rfl hs1 ?_
  refine mEnds.stp 1 (pc' := 236) (l' := [some (.ref 10), none, none, none, none, some (.int x5), some (.int x6), none, none, none]) (st' := [.int x6]) (fun _ => rfl) ?_
  exact mEnds.rti (Option.some.inj hf) (fun _ => rfl)
def M_read_56 (x1 : Int32) (x2 : Int32) (x3 : Int32) (x4 : Int32) : Nat → Int32 → Int32 → Int32 → sg → Option (Int32 × sg)
  | 0, _, _, _, _ => none
  | fu + 1, x5, x6, x7, s =>
  if x7 < (nI 2) * x4 then
    if x5 = 0 then
      (midx x1 4).bind fun j1 =>
      if s 20 j1 = (-4) then
        M_read_126 (M_read_56 x1 x2 x3 x4 fu) x1 x2 x3 x4 x6 x7 (nI 1) s
      else
        (midx x1 4).bind fun j2 =>
        if s 20 j2 = x2 then
          (midx x1 4).bind fun j3 =>
          (M_in (x3.toInt64 + x7.toInt64) (0 : Int64) (((s 21 j3) - (nI 1)).toInt64) s).bind fun v1 =>
          if v1 = 0 then
            M_read_126 (M_read_56 x1 x2 x3 x4 fu) x1 x2 x3 x4 x6 x7 (nI 2) s
          else
            M_read_126 (M_read_56 x1 x2 x3 x4 fu) x1 x2 x3 x4 x6 x7 (nI 0) s
        else
          M_read_126 (M_read_56 x1 x2 x3 x4 fu) x1 x2 x3 x4 x6 x7 (nI 3) s
    else
      M_read_228 x5 x6 s
  else
    M_read_228 x5 x6 s
set_option maxRecDepth 100000 in
theorem ok_M_read_56 {x1 : Int32} {x2 : Int32} {x3 : Int32} {x4 : Int32} : ∀ (fu : Nat) (x5 : Int32) (x6 : Int32) (x7 : Int32) (s : sg) (rv : (Int32 × sg)), M_read_56 x1 x2 x3 x4 fu x5 x6 x7 s = some rv → mEnds [] 4 181 (56, [some (.ref 10), some (.int x1), some (.int x2), some (.int x3), some (.int x4), some (.int x5), some (.int x6), some (.int x7), none, none], [], hp shM s, 0, 0) (some (.int rv.1), hp shM rv.2, 0, 0)
  | 0, _, _, _, _, _, hf => by cases hf
  | fu + 1, x5, x6, x7, s, rv, hf => by
    rw [M_read_56] at hf
    refine mEnds.stp 4 (pc' := 62) (l' := [some (.ref 10), some (.int x1), some (.int x2), some (.int x3), some (.int x4), some (.int x5), some (.int x6), some (.int x7), none, none]) (st' := [.int ((nI 2) * x4), .int x7]) (fun _ => rfl) ?_
    by_cases hc1 : x7 < (nI 2) * x4
    · rw [if_pos hc1] at hf
      refine t_cF (rfl : mfetch 181 62 = some (62, .if_icmp .ge 166, 3, 0, 0, 0)) (k_ge' hc1) ?_
      refine mEnds.stp 1 (pc' := 67) (l' := [some (.ref 10), some (.int x1), some (.int x2), some (.int x3), some (.int x4), some (.int x5), some (.int x6), some (.int x7), none, none]) (st' := [.int x5]) (fun _ => rfl) ?_
      by_cases hc2 : x5 = 0
      · rw [if_pos hc2] at hf
        refine t_jF (rfl : mfetch 181 67 = some (67, .ifCond .ne 161, 3, 0, 0, 0)) (k_ne' hc2) ?_
        refine mEnds.stp 1 (pc' := 71) (l' := [some (.ref 10), some (.int x1), some (.int x2), some (.int x3), some (.int x4), some (.int x5), some (.int x6), some (.int x7), none, none]) (st' := [.ref 10]) (fun _ => rfl) ?_
        refine t_gr (rfl : mfetch 181 71 = some (71, .getfield 38, 3, 5, 25, 0)) rfl rfl ?_
        refine mEnds.stp 1 (pc' := 75) (l' := [some (.ref 10), some (.int x1), some (.int x2), some (.int x3), some (.int x4), some (.int x5), some (.int x6), some (.int x7), none, none]) (st' := [.int x1, .ref 20]) (fun _ => rfl) ?_
        obtain ⟨j1, hj1, hf⟩ := ob hf
        refine t_ia (rfl : mfetch 181 75 = some (75, .iaload, 1, 0, 0, 0)) rfl rfl hj1 ?_
        refine mEnds.stp 1 (pc' := 78) (l' := [some (.ref 10), some (.int x1), some (.int x2), some (.int x3), some (.int x4), some (.int x5), some (.int x6), some (.int x7), none, none]) (st' := [.int (-4), .int (s 20 j1)]) (fun _ => rfl) ?_
        by_cases hc3 : s 20 j1 = (-4)
        · rw [if_pos hc3] at hf
          refine t_cF (rfl : mfetch 181 78 = some (78, .if_icmp .ne 7, 3, 0, 0, 0)) (k_ne' hc3) ?_
          refine mEnds.stp 2 (pc' := 126) (l' := [some (.ref 10), some (.int x1), some (.int x2), some (.int x3), some (.int x4), some (.int x5), some (.int x6), some (.int x7), none, none]) (st' := [.int (nI 1)]) (fun _ => rfl) ?_
          refine mEnds.cut (l := [some (.ref 10), some (.int x1), some (.int x2), some (.int x3), some (.int x4), none, some (.int x6), some (.int x7), none, none]) ⟨rfl, ⟨rfl, ⟨rfl, ⟨rfl, ⟨rfl, ⟨rfl, ⟨rfl, trivial⟩⟩⟩⟩⟩⟩⟩ ?_
          exact ok_M_read_126 (ok_M_read_56 fu) hf
        · rw [if_neg hc3] at hf
          refine t_cT (t := 85) (rfl : mfetch 181 78 = some (78, .if_icmp .ne 7, 3, 0, 0, 0)) rfl (k_ne hc3) ?_
          refine mEnds.stp 1 (pc' := 86) (l' := [some (.ref 10), some (.int x1), some (.int x2), some (.int x3), some (.int x4), some (.int x5), some (.int x6), some (.int x7), none, none]) (st' := [.ref 10]) (fun _ => rfl) ?_
          refine t_gr (rfl : mfetch 181 86 = some (86, .getfield 38, 3, 5, 25, 0)) rfl rfl ?_
          refine mEnds.stp 1 (pc' := 90) (l' := [some (.ref 10), some (.int x1), some (.int x2), some (.int x3), some (.int x4), some (.int x5), some (.int x6), some (.int x7), none, none]) (st' := [.int x1, .ref 20]) (fun _ => rfl) ?_
          obtain ⟨j2, hj2, hf⟩ := ob hf
          refine t_ia (rfl : mfetch 181 90 = some (90, .iaload, 1, 0, 0, 0)) rfl rfl hj2 ?_
          refine mEnds.stp 1 (pc' := 92) (l' := [some (.ref 10), some (.int x1), some (.int x2), some (.int x3), some (.int x4), some (.int x5), some (.int x6), some (.int x7), none, none]) (st' := [.int x2, .int (s 20 j2)]) (fun _ => rfl) ?_
          by_cases hc4 : s 20 j2 = x2
          · rw [if_pos hc4] at hf
            refine t_cT (t := 99) (rfl : mfetch 181 92 = some (92, .if_icmp .eq 7, 3, 0, 0, 0)) rfl (k_eq hc4) ?_
            refine mEnds.stp 7 (pc' := 107) (l' := [some (.ref 10), some (.int x1), some (.int x2), some (.int x3), some (.int x4), some (.int x5), some (.int x6), some (.int x7), none, none]) (st' := [.ref 10, .long (0 : Int64), .long (x3.toInt64 + x7.toInt64)]) (fun _ => rfl) ?_
            refine t_gr (rfl : mfetch 181 107 = some (107, .getfield 41, 3, 5, 26, 0)) rfl rfl ?_
            refine mEnds.stp 1 (pc' := 111) (l' := [some (.ref 10), some (.int x1), some (.int x2), some (.int x3), some (.int x4), some (.int x5), some (.int x6), some (.int x7), none, none]) (st' := [.int x1, .ref 21, .long (0 : Int64), .long (x3.toInt64 + x7.toInt64)]) (fun _ => rfl) ?_
            obtain ⟨j3, hj3, hf⟩ := ob hf
            refine t_ia (rfl : mfetch 181 111 = some (111, .iaload, 1, 0, 0, 0)) rfl rfl hj3 ?_
            refine mEnds.stp 3 (pc' := 115) (l' := [some (.ref 10), some (.int x1), some (.int x2), some (.int x3), some (.int x4), some (.int x5), some (.int x6), some (.int x7), none, none]) (st' := [.long (((s 21 j3) - (nI 1)).toInt64), .long (0 : Int64), .long (x3.toInt64 + x7.toInt64)]) (fun _ => rfl) ?_
            obtain ⟨v1, hv1, hf⟩ := ob hf
            refine t_cs (as := [.long (x3.toInt64 + x7.toInt64), .long (0 : Int64), .long (((s 21 j3) - (nI 1)).toInt64)]) (st := []) (Or.inl rfl) (rfl : mfetch 181 115 = some (115, .invokestatic 49, 3, 111, 0, 0)) rfl rfl rfl ((ok_M_in hv1).deep 3) ?_
            by_cases hc5 : v1 = 0
            · rw [if_pos hc5] at hf
              refine t_jF (rfl : mfetch 181 118 = some (118, .ifCond .ne 7, 3, 0, 0, 0)) (k_ne' hc5) ?_
              refine mEnds.stp 2 (pc' := 126) (l' := [some (.ref 10), some (.int x1), some (.int x2), some (.int x3), some (.int x4), some (.int x5), some (.int x6), some (.int x7), none, none]) (st' := [.int (nI 2)]) (fun _ => rfl) ?_
              refine mEnds.cut (l := [some (.ref 10), some (.int x1), some (.int x2), some (.int x3), some (.int x4), none, some (.int x6), some (.int x7), none, none]) ⟨rfl, ⟨rfl, ⟨rfl, ⟨rfl, ⟨rfl, ⟨rfl, ⟨rfl, trivial⟩⟩⟩⟩⟩⟩⟩ ?_
              exact ok_M_read_126 (ok_M_read_56 fu) hf
            · rw [if_neg hc5] at hf
              refine t_jT (t := 125) (rfl : mfetch 181 118 = some (118, .ifCond .ne 7, 3, 0, 0, 0)) rfl (k_ne hc5) ?_
              refine mEnds.stp 1 (pc' := 126) (l' := [some (.ref 10), some (.int x1), some (.int x2), some (.int x3), some (.int x4), some (.int x5), some (.int x6), some (.int x7), none, none]) (st' := [.int (nI 0)]) (fun _ => rfl) ?_
              refine mEnds.cut (l := [some (.ref 10), some (.int x1), some (.int x2), some (.int x3), some (.int x4), none, some (.int x6), some (.int x7), none, none]) ⟨rfl, ⟨rfl, ⟨rfl, ⟨rfl, ⟨rfl, ⟨rfl, ⟨rfl, trivial⟩⟩⟩⟩⟩⟩⟩ ?_
              exact ok_M_read_126 (ok_M_read_56 fu) hf
          · rw [if_neg hc4] at hf
            refine t_cF (rfl : mfetch 181 92 = some (92, .if_icmp .eq 7, 3, 0, 0, 0)) (k_eq' hc4) ?_
            refine mEnds.stp 2 (pc' := 126) (l' := [some (.ref 10), some (.int x1), some (.int x2), some (.int x3), some (.int x4), some (.int x5), some (.int x6), some (.int x7), none, none]) (st' := [.int (nI 3)]) (fun _ => rfl) ?_
            refine mEnds.cut (l := [some (.ref 10), some (.int x1), some (.int x2), some (.int x3), some (.int x4), none, some (.int x6), some (.int x7), none, none]) ⟨rfl, ⟨rfl, ⟨rfl, ⟨rfl, ⟨rfl, ⟨rfl, ⟨rfl, trivial⟩⟩⟩⟩⟩⟩⟩ ?_
            exact ok_M_read_126 (ok_M_read_56 fu) hf
      · rw [if_neg hc2] at hf
        refine t_jT (t := 228) (rfl : mfetch 181 67 = some (67, .ifCond .ne 161, 3, 0, 0, 0)) rfl (k_ne hc2) ?_
        refine mEnds.cut (l := [some (.ref 10), none, none, none, none, some (.int x5), some (.int x6), none, none, none]) ⟨rfl, ⟨rfl, ⟨rfl, trivial⟩⟩⟩ ?_
        exact ok_M_read_228 hf
    · rw [if_neg hc1] at hf
      refine t_cT (t := 228) (rfl : mfetch 181 62 = some (62, .if_icmp .ge 166, 3, 0, 0, 0)) rfl (k_ge hc1) ?_
      refine mEnds.cut (l := [some (.ref 10), none, none, none, none, some (.int x5), some (.int x6), none, none, none]) ⟨rfl, ⟨rfl, ⟨rfl, trivial⟩⟩⟩ ?_
      exact ok_M_read_228 hf
def M_read (x1 : Int32) (x2 : Int32) (x3 : Int32) (x4 : Int32) (s : sg) : Option (Int32 × sg) :=
  (M_in x1.toInt64 (0 : Int64) (3 : Int64) s).bind fun v1 =>
  if v1 = 0 then
    some ((-1), s)
  else
    (M_in x2.toInt64 (0 : Int64) (2 : Int64) s).bind fun v2 =>
    if v2 = 0 then
      some ((-1), s)
    else
      (M_in x4.toInt64 (0 : Int64) (20 : Int64) s).bind fun v3 =>
      if v3 = 0 then
        some ((-1), s)
      else
        (M_copies (nI 0) (nI 156) s).bind fun s1 =>
        M_read_56 x1 x2 x3 x4 FU (nI 0) (nI 0) (nI 0) s1
set_option maxRecDepth 100000 in
theorem ok_M_read {x1 : Int32} {x2 : Int32} {x3 : Int32} {x4 : Int32} {s : sg} {rv : (Int32 × sg)} (hf : M_read x1 x2 x3 x4 s = some rv) : mEnds [] 4 181 (0, [some (.ref 10), some (.int x1), some (.int x2), some (.int x3), some (.int x4), none, none, none, none, none], [], hp shM s, 0, 0) (some (.int rv.1), hp shM rv.2, 0, 0) := by
  unfold M_read at hf
  refine mEnds.stp 4 (pc' := 6) (l' := [some (.ref 10), some (.int x1), some (.int x2), some (.int x3), some (.int x4), none, none, none, none, none]) (st' := [.long (3 : Int64), .long (0 : Int64), .long x1.toInt64]) (fun _ => rfl) ?_
  obtain ⟨v1, hv1, hf⟩ := ob hf
  refine t_cs (as := [.long x1.toInt64, .long (0 : Int64), .long (3 : Int64)]) (st := []) (Or.inl rfl) (rfl : mfetch 181 6 = some (6, .invokestatic 49, 3, 111, 0, 0)) rfl rfl rfl ((ok_M_in hv1).deep 3) ?_
  by_cases hc1 : v1 = 0
  · rw [if_pos hc1] at hf
    refine t_jT (t := 37) (rfl : mfetch 181 9 = some (9, .ifCond .eq 28, 3, 0, 0, 0)) rfl (k_eq hc1) ?_
    refine mEnds.stp 1 (pc' := 38) (l' := [some (.ref 10), some (.int x1), some (.int x2), some (.int x3), some (.int x4), none, none, none, none, none]) (st' := [.int (-1)]) (fun _ => rfl) ?_
    exact mEnds.rti (Option.some.inj hf) (fun _ => rfl)
  · rw [if_neg hc1] at hf
    refine t_jF (rfl : mfetch 181 9 = some (9, .ifCond .eq 28, 3, 0, 0, 0)) (k_eq' hc1) ?_
    refine mEnds.stp 4 (pc' := 18) (l' := [some (.ref 10), some (.int x1), some (.int x2), some (.int x3), some (.int x4), none, none, none, none, none]) (st' := [.long (2 : Int64), .long (0 : Int64), .long x2.toInt64]) (fun _ => rfl) ?_
    obtain ⟨v2, hv2, hf⟩ := ob hf
    refine t_cs (as := [.long x2.toInt64, .long (0 : Int64), .long (2 : Int64)]) (st := []) (Or.inl rfl) (rfl : mfetch 181 18 = some (18, .invokestatic 49, 3, 111, 0, 0)) rfl rfl rfl ((ok_M_in hv2).deep 3) ?_
    by_cases hc2 : v2 = 0
    · rw [if_pos hc2] at hf
      refine t_jT (t := 37) (rfl : mfetch 181 21 = some (21, .ifCond .eq 16, 3, 0, 0, 0)) rfl (k_eq hc2) ?_
      refine mEnds.stp 1 (pc' := 38) (l' := [some (.ref 10), some (.int x1), some (.int x2), some (.int x3), some (.int x4), none, none, none, none, none]) (st' := [.int (-1)]) (fun _ => rfl) ?_
      exact mEnds.rti (Option.some.inj hf) (fun _ => rfl)
    · rw [if_neg hc2] at hf
      refine t_jF (rfl : mfetch 181 21 = some (21, .ifCond .eq 16, 3, 0, 0, 0)) (k_eq' hc2) ?_
      refine mEnds.stp 4 (pc' := 31) (l' := [some (.ref 10), some (.int x1), some (.int x2), some (.int x3), some (.int x4), none, none, none, none, none]) (st' := [.long (20 : Int64), .long (0 : Int64), .long x4.toInt64]) (fun _ => rfl) ?_
      obtain ⟨v3, hv3, hf⟩ := ob hf
      refine t_cs (as := [.long x4.toInt64, .long (0 : Int64), .long (20 : Int64)]) (st := []) (Or.inl rfl) (rfl : mfetch 181 31 = some (31, .invokestatic 49, 3, 111, 0, 0)) rfl rfl rfl ((ok_M_in hv3).deep 3) ?_
      by_cases hc3 : v3 = 0
      · rw [if_pos hc3] at hf
        refine t_jF (rfl : mfetch 181 34 = some (34, .ifCond .ne 5, 3, 0, 0, 0)) (k_ne' hc3) ?_
        refine mEnds.stp 1 (pc' := 38) (l' := [some (.ref 10), some (.int x1), some (.int x2), some (.int x3), some (.int x4), none, none, none, none, none]) (st' := [.int (-1)]) (fun _ => rfl) ?_
        exact mEnds.rti (Option.some.inj hf) (fun _ => rfl)
      · rw [if_neg hc3] at hf
        refine t_jT (t := 39) (rfl : mfetch 181 34 = some (34, .ifCond .ne 5, 3, 0, 0, 0)) rfl (k_ne hc3) ?_
        refine mEnds.stp 3 (pc' := 44) (l' := [some (.ref 10), some (.int x1), some (.int x2), some (.int x3), some (.int x4), none, none, none, none, none]) (st' := [.int (nI 156), .int (nI 0), .ref 10]) (fun _ => rfl) ?_
        obtain ⟨s1, hs1, hf⟩ := ob hf
        refine t_cv (as := [.int (nI 0), .int (nI 156)]) (st := []) (rfl : mfetch 181 44 = some (44, .invokevirtual 201, 3, 152, 0, 0)) rfl rfl rfl rfl rfl ((ok_M_copies hs1).deep 3) ?_
        refine mEnds.stp 6 (pc' := 56) (l' := [some (.ref 10), some (.int x1), some (.int x2), some (.int x3), some (.int x4), some (.int (nI 0)), some (.int (nI 0)), some (.int (nI 0)), none, none]) (st' := []) (fun _ => rfl) ?_
        refine mEnds.cut (l := [some (.ref 10), some (.int x1), some (.int x2), some (.int x3), some (.int x4), some (.int (nI 0)), some (.int (nI 0)), some (.int (nI 0)), none, none]) ⟨rfl, ⟨rfl, ⟨rfl, ⟨rfl, ⟨rfl, ⟨rfl, ⟨rfl, ⟨rfl, trivial⟩⟩⟩⟩⟩⟩⟩⟩ ?_
        exact ok_M_read_56 FU (nI 0) (nI 0) (nI 0) s1 _ hf
def M_torn (s : sg) : Option Int32 :=
  some (s 10 28)
set_option maxRecDepth 100000 in
theorem ok_M_torn {s : sg} {rv : Int32} (hf : M_torn s = some rv) : mEnds [] 0 182 (0, [some (.ref 10)], [], hp shM s, 0, 0) (some (.int rv), hp shM s, 0, 0) := by
  unfold M_torn at hf
  refine mEnds.stp 1 (pc' := 1) (l' := [some (.ref 10)]) (st' := [.ref 10]) (fun _ => rfl) ?_
  refine t_gi (rfl : mfetch 182 1 = some (1, .getfield 250, 3, 5, 28, 0)) rfl rfl ?_
  cases hf; exact mEnds.rt (fun _ => rfl)
def M_count_127 (y0 : Int32) (s : sg) : Option Int32 :=
  (midx (nI 1) 2).bind fun j1 =>
  if s 19 j1 = 0 then
    some (y0 + (nI 0))
  else
    some (y0 + (nI 1))
set_option maxRecDepth 100000 in
theorem ok_M_count_127 {y0 : Int32} {s : sg} {rv : Int32} (hf : M_count_127 y0 s = some rv) : mEnds [] 0 183 (127, [some (.ref 10), none, none, none, none], [.int y0], hp shM s, 0, 0) (some (.int rv), hp shM s, 0, 0) := by
  unfold M_count_127 at hf
  refine mEnds.stp 1 (pc' := 128) (l' := [some (.ref 10), none, none, none, none]) (st' := [.ref 10, .int y0]) (fun _ => rfl) ?_
  refine t_gr (rfl : mfetch 183 128 = some (128, .getfield 34, 3, 5, 24, 0)) rfl rfl ?_
  refine mEnds.stp 1 (pc' := 132) (l' := [some (.ref 10), none, none, none, none]) (st' := [.int (nI 1), .ref 19, .int y0]) (fun _ => rfl) ?_
  obtain ⟨j1, hj1, hf⟩ := ob hf
  refine t_ba (rfl : mfetch 183 132 = some (132, .baload, 1, 0, 0, 0)) rfl rfl rfl hj1 ?_
  by_cases hc1 : s 19 j1 = 0
  · rw [if_pos hc1] at hf
    refine t_jT (t := 140) (rfl : mfetch 183 133 = some (133, .ifCond .eq 7, 3, 0, 0, 0)) rfl (k_eq hc1) ?_
    refine mEnds.stp 2 (pc' := 142) (l' := [some (.ref 10), none, none, none, none]) (st' := [.int (y0 + (nI 0))]) (fun _ => rfl) ?_
    cases hf; exact mEnds.rt (fun _ => rfl)
  · rw [if_neg hc1] at hf
    refine t_jF (rfl : mfetch 183 133 = some (133, .ifCond .eq 7, 3, 0, 0, 0)) (k_eq' hc1) ?_
    refine mEnds.stp 3 (pc' := 142) (l' := [some (.ref 10), none, none, none, none]) (st' := [.int (y0 + (nI 1))]) (fun _ => rfl) ?_
    cases hf; exact mEnds.rt (fun _ => rfl)
def M_count_38 (x1 : Int32) (x2 : Int32) (s : sg) : Nat → Int32 → Int32 → Option Int32
  | 0, _, _ => none
  | fu + 1, x3, x4 =>
  if x4 < (s 10 1) - (nI 1) then
    (midx ((nI 36) + x4) 312).bind fun j4 =>
    M_count_38 x1 x2 s fu (x3 + ((s 11 j4) + (nI 2))) (x4 + (nI 1))
  else
    if x1 = nI 0 then
      some (s 10 22)
    else
      if x1 = nI 1 then
        (midx (nI 0) 2).bind fun j1 =>
        if s 19 j1 = 0 then
          M_count_127 (nI 0) s
        else
          M_count_127 (nI 1) s
      else
        if x1 = nI 2 then
          some (s 10 8)
        else
          if x1 = nI 3 then
            (midx (nI 0) 4).bind fun j2 =>
            if s 20 j2 = (-4) then
              some (-4)
            else
              (midx (nI 0) 4).bind fun j3 =>
              some (s 21 j3)
          else
            if x1 = nI 4 then
              some x2
            else
              if x1 = nI 5 then
                some x3
              else
                some (-1)
set_option maxRecDepth 100000 in
theorem ok_M_count_38 {x1 : Int32} {x2 : Int32} {s : sg} : ∀ (fu : Nat) (x3 : Int32) (x4 : Int32) (rv : Int32), M_count_38 x1 x2 s fu x3 x4 = some rv → mEnds [] 0 183 (38, [some (.ref 10), some (.int x1), some (.int x2), some (.int x3), some (.int x4)], [], hp shM s, 0, 0) (some (.int rv), hp shM s, 0, 0)
  | 0, _, _, _, hf => by cases hf
  | fu + 1, x3, x4, rv, hf => by
    rw [M_count_38] at hf
    refine mEnds.stp 2 (pc' := 41) (l' := [some (.ref 10), some (.int x1), some (.int x2), some (.int x3), some (.int x4)]) (st' := [.ref 10, .int x4]) (fun _ => rfl) ?_
    refine t_gi (rfl : mfetch 183 41 = some (41, .getfield 139, 3, 5, 1, 0)) rfl rfl ?_
    refine mEnds.stp 2 (pc' := 46) (l' := [some (.ref 10), some (.int x1), some (.int x2), some (.int x3), some (.int x4)]) (st' := [.int ((s 10 1) - (nI 1)), .int x4]) (fun _ => rfl) ?_
    by_cases hc1 : x4 < (s 10 1) - (nI 1)
    · rw [if_pos hc1] at hf
      refine t_cF (rfl : mfetch 183 46 = some (46, .if_icmp .ge 24, 3, 0, 0, 0)) (k_ge' hc1) ?_
      refine mEnds.stp 2 (pc' := 51) (l' := [some (.ref 10), some (.int x1), some (.int x2), some (.int x3), some (.int x4)]) (st' := [.ref 10, .int x3]) (fun _ => rfl) ?_
      refine t_gr (rfl : mfetch 183 51 = some (51, .getfield 7, 3, 5, 0, 0)) rfl rfl ?_
      refine mEnds.stp 3 (pc' := 59) (l' := [some (.ref 10), some (.int x1), some (.int x2), some (.int x3), some (.int x4)]) (st' := [.int ((nI 36) + x4), .ref 11, .int x3]) (fun _ => rfl) ?_
      obtain ⟨j4, hj4, hf⟩ := ob hf
      refine t_ia (rfl : mfetch 183 59 = some (59, .iaload, 1, 0, 0, 0)) rfl rfl hj4 ?_
      refine mEnds.stp 6 (pc' := 38) (l' := [some (.ref 10), some (.int x1), some (.int x2), some (.int (x3 + ((s 11 j4) + (nI 2)))), some (.int (x4 + (nI 1)))]) (st' := []) (fun _ => rfl) ?_
      refine mEnds.cut (l := [some (.ref 10), some (.int x1), some (.int x2), some (.int (x3 + ((s 11 j4) + (nI 2)))), some (.int (x4 + (nI 1)))]) ⟨rfl, ⟨rfl, ⟨rfl, ⟨rfl, ⟨rfl, trivial⟩⟩⟩⟩⟩ ?_
      exact ok_M_count_38 fu (x3 + ((s 11 j4) + (nI 2))) (x4 + (nI 1)) _ hf
    · rw [if_neg hc1] at hf
      refine t_cT (t := 70) (rfl : mfetch 183 46 = some (46, .if_icmp .ge 24, 3, 0, 0, 0)) rfl (k_ge hc1) ?_
      refine mEnds.stp 1 (pc' := 71) (l' := [some (.ref 10), some (.int x1), some (.int x2), some (.int x3), some (.int x4)]) (st' := [.int x1]) (fun _ => rfl) ?_
      by_cases hc2 : x1 = nI 0
      · rw [if_pos hc2] at hf
        refine t_sw hc2 (fun _ _ _ => rfl) (t := 108) ?_
        refine mEnds.stp 1 (pc' := 109) (l' := [some (.ref 10), some (.int x1), some (.int x2), some (.int x3), some (.int x4)]) (st' := [.ref 10]) (fun _ => rfl) ?_
        refine t_gi (rfl : mfetch 183 109 = some (109, .getfield 142, 3, 5, 22, 0)) rfl rfl ?_
        cases hf; exact mEnds.rt (fun _ => rfl)
      · rw [if_neg hc2] at hf
        by_cases hc3 : x1 = nI 1
        · rw [if_pos hc3] at hf
          refine t_sw hc3 (fun _ _ _ => rfl) (t := 113) ?_
          refine mEnds.stp 1 (pc' := 114) (l' := [some (.ref 10), some (.int x1), some (.int x2), some (.int x3), some (.int x4)]) (st' := [.ref 10]) (fun _ => rfl) ?_
          refine t_gr (rfl : mfetch 183 114 = some (114, .getfield 34, 3, 5, 24, 0)) rfl rfl ?_
          refine mEnds.stp 1 (pc' := 118) (l' := [some (.ref 10), some (.int x1), some (.int x2), some (.int x3), some (.int x4)]) (st' := [.int (nI 0), .ref 19]) (fun _ => rfl) ?_
          obtain ⟨j1, hj1, hf⟩ := ob hf
          refine t_ba (rfl : mfetch 183 118 = some (118, .baload, 1, 0, 0, 0)) rfl rfl rfl hj1 ?_
          by_cases hc4 : s 19 j1 = 0
          · rw [if_pos hc4] at hf
            refine t_jT (t := 126) (rfl : mfetch 183 119 = some (119, .ifCond .eq 7, 3, 0, 0, 0)) rfl (k_eq hc4) ?_
            refine mEnds.stp 1 (pc' := 127) (l' := [some (.ref 10), some (.int x1), some (.int x2), some (.int x3), some (.int x4)]) (st' := [.int (nI 0)]) (fun _ => rfl) ?_
            refine mEnds.cut (l := [some (.ref 10), none, none, none, none]) ⟨rfl, trivial⟩ ?_
            exact ok_M_count_127 hf
          · rw [if_neg hc4] at hf
            refine t_jF (rfl : mfetch 183 119 = some (119, .ifCond .eq 7, 3, 0, 0, 0)) (k_eq' hc4) ?_
            refine mEnds.stp 2 (pc' := 127) (l' := [some (.ref 10), some (.int x1), some (.int x2), some (.int x3), some (.int x4)]) (st' := [.int (nI 1)]) (fun _ => rfl) ?_
            refine mEnds.cut (l := [some (.ref 10), none, none, none, none]) ⟨rfl, trivial⟩ ?_
            exact ok_M_count_127 hf
        · rw [if_neg hc3] at hf
          by_cases hc5 : x1 = nI 2
          · rw [if_pos hc5] at hf
            refine t_sw hc5 (fun _ _ _ => rfl) (t := 143) ?_
            refine mEnds.stp 1 (pc' := 144) (l' := [some (.ref 10), some (.int x1), some (.int x2), some (.int x3), some (.int x4)]) (st' := [.ref 10]) (fun _ => rfl) ?_
            refine t_gi (rfl : mfetch 183 144 = some (144, .getfield 53, 3, 5, 8, 0)) rfl rfl ?_
            cases hf; exact mEnds.rt (fun _ => rfl)
          · rw [if_neg hc5] at hf
            by_cases hc6 : x1 = nI 3
            · rw [if_pos hc6] at hf
              refine t_sw hc6 (fun _ _ _ => rfl) (t := 148) ?_
              refine mEnds.stp 1 (pc' := 149) (l' := [some (.ref 10), some (.int x1), some (.int x2), some (.int x3), some (.int x4)]) (st' := [.ref 10]) (fun _ => rfl) ?_
              refine t_gr (rfl : mfetch 183 149 = some (149, .getfield 38, 3, 5, 25, 0)) rfl rfl ?_
              refine mEnds.stp 1 (pc' := 153) (l' := [some (.ref 10), some (.int x1), some (.int x2), some (.int x3), some (.int x4)]) (st' := [.int (nI 0), .ref 20]) (fun _ => rfl) ?_
              obtain ⟨j2, hj2, hf⟩ := ob hf
              refine t_ia (rfl : mfetch 183 153 = some (153, .iaload, 1, 0, 0, 0)) rfl rfl hj2 ?_
              refine mEnds.stp 1 (pc' := 156) (l' := [some (.ref 10), some (.int x1), some (.int x2), some (.int x3), some (.int x4)]) (st' := [.int (-4), .int (s 20 j2)]) (fun _ => rfl) ?_
              by_cases hc7 : s 20 j2 = (-4)
              · rw [if_pos hc7] at hf
                refine t_cF (rfl : mfetch 183 156 = some (156, .if_icmp .ne 8, 3, 0, 0, 0)) (k_ne' hc7) ?_
                refine mEnds.stp 2 (pc' := 170) (l' := [some (.ref 10), some (.int x1), some (.int x2), some (.int x3), some (.int x4)]) (st' := [.int (-4)]) (fun _ => rfl) ?_
                cases hf; exact mEnds.rt (fun _ => rfl)
              · rw [if_neg hc7] at hf
                refine t_cT (t := 164) (rfl : mfetch 183 156 = some (156, .if_icmp .ne 8, 3, 0, 0, 0)) rfl (k_ne hc7) ?_
                refine mEnds.stp 1 (pc' := 165) (l' := [some (.ref 10), some (.int x1), some (.int x2), some (.int x3), some (.int x4)]) (st' := [.ref 10]) (fun _ => rfl) ?_
                refine t_gr (rfl : mfetch 183 165 = some (165, .getfield 41, 3, 5, 26, 0)) rfl rfl ?_
                refine mEnds.stp 1 (pc' := 169) (l' := [some (.ref 10), some (.int x1), some (.int x2), some (.int x3), some (.int x4)]) (st' := [.int (nI 0), .ref 21]) (fun _ => rfl) ?_
                obtain ⟨j3, hj3, hf⟩ := ob hf
                refine t_ia (rfl : mfetch 183 169 = some (169, .iaload, 1, 0, 0, 0)) rfl rfl hj3 ?_
                cases hf; exact mEnds.rt (fun _ => rfl)
            · rw [if_neg hc6] at hf
              by_cases hc8 : x1 = nI 4
              · rw [if_pos hc8] at hf
                refine t_sw hc8 (fun _ _ _ => rfl) (t := 171) ?_
                refine mEnds.stp 1 (pc' := 172) (l' := [some (.ref 10), some (.int x1), some (.int x2), some (.int x3), some (.int x4)]) (st' := [.int x2]) (fun _ => rfl) ?_
                cases hf; exact mEnds.rt (fun _ => rfl)
              · rw [if_neg hc8] at hf
                by_cases hc9 : x1 = nI 5
                · rw [if_pos hc9] at hf
                  refine t_sw hc9 (fun _ _ _ => rfl) (t := 173) ?_
                  refine mEnds.stp 1 (pc' := 174) (l' := [some (.ref 10), some (.int x1), some (.int x2), some (.int x3), some (.int x4)]) (st' := [.int x3]) (fun _ => rfl) ?_
                  cases hf; exact mEnds.rt (fun _ => rfl)
                · rw [if_neg hc9] at hf
                  refine t_swD (t := 175) (rfl : mfetch 183 71 = some (71, .tableswitch 104 0 5 #[37, 42, 72, 77, 100, 102], 37, 0, 0, 0)) rfl (sw_out (fun k hk => match k, hk with | 0, _ => hc2 | 1, _ => hc3 | 2, _ => hc5 | 3, _ => hc6 | 4, _ => hc8 | 5, _ => hc9 | k + 6, hk => absurd hk (by omega))) ?_
                  refine mEnds.stp 1 (pc' := 176) (l' := [some (.ref 10), some (.int x1), some (.int x2), some (.int x3), some (.int x4)]) (st' := [.int (-1)]) (fun _ => rfl) ?_
                  cases hf; exact mEnds.rt (fun _ => rfl)
def M_count_7 (x1 : Int32) (x3 : Int32) (s : sg) : Nat → Int32 → Int32 → Option Int32
  | 0, _, _ => none
  | fu + 1, x2, x4 =>
  if x4 < s 10 1 then
    (midx ((nI 6) + x4) 312).bind fun j1 =>
    M_count_7 x1 x3 s fu (x2 + (s 11 j1)) (x4 + (nI 1))
  else
    M_count_38 x1 x2 s FU x3 (nI 0)
set_option maxRecDepth 100000 in
theorem ok_M_count_7 {x1 : Int32} {x3 : Int32} {s : sg} : ∀ (fu : Nat) (x2 : Int32) (x4 : Int32) (rv : Int32), M_count_7 x1 x3 s fu x2 x4 = some rv → mEnds [] 0 183 (7, [some (.ref 10), some (.int x1), some (.int x2), some (.int x3), some (.int x4)], [], hp shM s, 0, 0) (some (.int rv), hp shM s, 0, 0)
  | 0, _, _, _, hf => by cases hf
  | fu + 1, x2, x4, rv, hf => by
    rw [M_count_7] at hf
    refine mEnds.stp 2 (pc' := 10) (l' := [some (.ref 10), some (.int x1), some (.int x2), some (.int x3), some (.int x4)]) (st' := [.ref 10, .int x4]) (fun _ => rfl) ?_
    refine t_gi (rfl : mfetch 183 10 = some (10, .getfield 139, 3, 5, 1, 0)) rfl rfl ?_
    by_cases hc1 : x4 < s 10 1
    · rw [if_pos hc1] at hf
      refine t_cF (rfl : mfetch 183 13 = some (13, .if_icmp .ge 22, 3, 0, 0, 0)) (k_ge' hc1) ?_
      refine mEnds.stp 2 (pc' := 18) (l' := [some (.ref 10), some (.int x1), some (.int x2), some (.int x3), some (.int x4)]) (st' := [.ref 10, .int x2]) (fun _ => rfl) ?_
      refine t_gr (rfl : mfetch 183 18 = some (18, .getfield 7, 3, 5, 0, 0)) rfl rfl ?_
      refine mEnds.stp 3 (pc' := 26) (l' := [some (.ref 10), some (.int x1), some (.int x2), some (.int x3), some (.int x4)]) (st' := [.int ((nI 6) + x4), .ref 11, .int x2]) (fun _ => rfl) ?_
      obtain ⟨j1, hj1, hf⟩ := ob hf
      refine t_ia (rfl : mfetch 183 26 = some (26, .iaload, 1, 0, 0, 0)) rfl rfl hj1 ?_
      refine mEnds.stp 4 (pc' := 7) (l' := [some (.ref 10), some (.int x1), some (.int (x2 + (s 11 j1))), some (.int x3), some (.int (x4 + (nI 1)))]) (st' := []) (fun _ => rfl) ?_
      refine mEnds.cut (l := [some (.ref 10), some (.int x1), some (.int (x2 + (s 11 j1))), some (.int x3), some (.int (x4 + (nI 1)))]) ⟨rfl, ⟨rfl, ⟨rfl, ⟨rfl, ⟨rfl, trivial⟩⟩⟩⟩⟩ ?_
      exact ok_M_count_7 fu (x2 + (s 11 j1)) (x4 + (nI 1)) _ hf
    · rw [if_neg hc1] at hf
      refine t_cT (t := 35) (rfl : mfetch 183 13 = some (13, .if_icmp .ge 22, 3, 0, 0, 0)) rfl (k_ge hc1) ?_
      refine mEnds.stp 2 (pc' := 38) (l' := [some (.ref 10), some (.int x1), some (.int x2), some (.int x3), some (.int (nI 0))]) (st' := []) (fun _ => rfl) ?_
      refine mEnds.cut (l := [some (.ref 10), some (.int x1), some (.int x2), some (.int x3), some (.int (nI 0))]) ⟨rfl, ⟨rfl, ⟨rfl, ⟨rfl, ⟨rfl, trivial⟩⟩⟩⟩⟩ ?_
      exact ok_M_count_38 FU x3 (nI 0) _ hf
def M_count (x1 : Int32) (s : sg) : Option Int32 :=
  M_count_7 x1 (nI 0) s FU (nI 0) (nI 0)
set_option maxRecDepth 100000 in
theorem ok_M_count {x1 : Int32} {s : sg} {rv : Int32} (hf : M_count x1 s = some rv) : mEnds [] 0 183 (0, [some (.ref 10), some (.int x1), none, none, none], [], hp shM s, 0, 0) (some (.int rv), hp shM s, 0, 0) := by
  unfold M_count at hf
  refine mEnds.stp 6 (pc' := 7) (l' := [some (.ref 10), some (.int x1), some (.int (nI 0)), some (.int (nI 0)), some (.int (nI 0))]) (st' := []) (fun _ => rfl) ?_
  refine mEnds.cut (l := [some (.ref 10), some (.int x1), some (.int (nI 0)), some (.int (nI 0)), some (.int (nI 0))]) ⟨rfl, ⟨rfl, ⟨rfl, ⟨rfl, ⟨rfl, trivial⟩⟩⟩⟩⟩ ?_
  exact ok_M_count_7 FU (nI 0) (nI 0) _ hf
end Q31i
