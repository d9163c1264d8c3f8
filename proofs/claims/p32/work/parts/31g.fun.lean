def M_byFuse_95 (k32 : Int64 → Int32 → sg → Option (Int64 × sg)) (k54 : Int64 → Int32 → sg → Option (Int64 × sg)) (x1 : Int32) (x2 : Int32) (x3 : Int32) (x4 : Int32) (x5 : Int32) (x6 : Int64) (x8 : Int64) (x10 : Int32) (x13 : Int32) (x14 : Int32) (y0 : Int64) (y1 : Int64) (s : sg) : Option (Int64 × sg) :=
  (M_outOn (nI 208) s).bind fun v1 =>
  (M_hourOn (nI 208) v1 x14 s).bind fun s1 =>
  k54 (y1 * y0) (x13 + (nI 1)) s1
set_option maxRecDepth 100000 in
theorem ok_M_byFuse_95 {k32 : Int64 → Int32 → sg → Option (Int64 × sg)} {k54 : Int64 → Int32 → sg → Option (Int64 × sg)} {x1 : Int32} {x2 : Int32} {x3 : Int32} {x4 : Int32} {x5 : Int32} {x6 : Int64} {x8 : Int64} {x10 : Int32} {x13 : Int32} {x14 : Int32} {y0 : Int64} {y1 : Int64} {s : sg} {rv : (Int64 × sg)} (hk32 : ∀ (x6 : Int64) (x10 : Int32) (s : sg) (rv : (Int64 × sg)), k32 x6 x10 s = some rv → mEnds [] 3 165 (32, [some (.ref 10), some (.int x1), some (.int x2), some (.int x3), some (.int x4), some (.int x5), some (.long x6), none, some (.long x8), none, some (.int x10), none, none, none, none], [], hp shM s, 0, 0) (some (.long rv.1), hp shM rv.2, 0, 0)) (hk54 : ∀ (x11 : Int64) (x13 : Int32) (s : sg) (rv : (Int64 × sg)), k54 x11 x13 s = some rv → mEnds [] 3 165 (54, [some (.ref 10), some (.int x1), some (.int x2), some (.int x3), some (.int x4), some (.int x5), some (.long x6), none, some (.long x8), none, some (.int x10), some (.long x11), none, some (.int x13), none], [], hp shM s, 0, 0) (some (.long rv.1), hp shM rv.2, 0, 0)) (hf : M_byFuse_95 k32 k54 x1 x2 x3 x4 x5 x6 x8 x10 x13 x14 y0 y1 s = some rv) : mEnds [] 3 165 (95, [some (.ref 10), some (.int x1), some (.int x2), some (.int x3), some (.int x4), some (.int x5), some (.long x6), none, some (.long x8), none, some (.int x10), none, none, some (.int x13), some (.int x14)], [.long y0, .long y1], hp shM s, 0, 0) (some (.long rv.1), hp shM rv.2, 0, 0) := by
  unfold M_byFuse_95 at hf
  refine mEnds.stp 6 (pc' := 106) (l' := [some (.ref 10), some (.int x1), some (.int x2), some (.int x3), some (.int x4), some (.int x5), some (.long x6), none, some (.long x8), none, some (.int x10), some (.long (y1 * y0)), none, some (.int x13), some (.int x14)]) (st' := [.int (nI 208), .ref 10, .int (nI 208), .ref 10]) (fun _ => rfl) ?_
  obtain ⟨v1, hv1, hf⟩ := ob hf
  refine t_cv (as := [.int (nI 208)]) (st := [.int (nI 208), .ref 10]) (rfl : mfetch 165 106 = some (106, .invokevirtual 154, 3, 133, 0, 0)) rfl rfl rfl rfl rfl ((ok_M_outOn hv1).deep 2) ?_
  refine mEnds.stp 1 (pc' := 111) (l' := [some (.ref 10), some (.int x1), some (.int x2), some (.int x3), some (.int x4), some (.int x5), some (.long x6), none, some (.long x8), none, some (.int x10), some (.long (y1 * y0)), none, some (.int x13), some (.int x14)]) (st' := [.int x14, .int v1, .int (nI 208), .ref 10]) (fun _ => rfl) ?_
  obtain ⟨s1, hs1, hf⟩ := ob hf
  refine t_cv (as := [.int (nI 208), .int v1, .int x14]) (st := []) (rfl : mfetch 165 111 = some (111, .invokevirtual 157, 3, 132, 0, 0)) rfl rfl rfl rfl rfl (ok_M_hourOn hs1) ?_
  refine mEnds.stp 2 (pc' := 54) (l' := [some (.ref 10), some (.int x1), some (.int x2), some (.int x3), some (.int x4), some (.int x5), some (.long x6), none, some (.long x8), none, some (.int x10), some (.long (y1 * y0)), none, some (.int (x13 + (nI 1))), some (.int x14)]) (st' := []) (fun _ => rfl) ?_
  refine mEnds.cut (l := [some (.ref 10), some (.int x1), some (.int x2), some (.int x3), some (.int x4), some (.int x5), some (.long x6), none, some (.long x8), none, some (.int x10), some (.long (y1 * y0)), none, some (.int (x13 + (nI 1))), none]) ⟨rfl, ⟨rfl, ⟨rfl, ⟨rfl, ⟨rfl, ⟨rfl, ⟨rfl, ⟨rfl, ⟨rfl, ⟨rfl, ⟨rfl, trivial⟩⟩⟩⟩⟩⟩⟩⟩⟩⟩⟩ ?_
  exact hk54 (y1 * y0) (x13 + (nI 1)) s1 _ hf
def M_byFuse_76 (k32 : Int64 → Int32 → sg → Option (Int64 × sg)) (k54 : Int64 → Int32 → sg → Option (Int64 × sg)) (x1 : Int32) (x2 : Int32) (x3 : Int32) (x4 : Int32) (x5 : Int32) (x6 : Int64) (x8 : Int64) (x10 : Int32) (x11 : Int64) (x13 : Int32) (y0 : Int32) (s : sg) : Option (Int64 × sg) :=
  if y0 = 0 then
    M_byFuse_95 k32 k54 x1 x2 x3 x4 x5 x6 x8 x10 x13 y0 (((nI 10) - x1).toInt64) x11 s
  else
    M_byFuse_95 k32 k54 x1 x2 x3 x4 x5 x6 x8 x10 x13 y0 x1.toInt64 x11 s
set_option maxRecDepth 100000 in
theorem ok_M_byFuse_76 {k32 : Int64 → Int32 → sg → Option (Int64 × sg)} {k54 : Int64 → Int32 → sg → Option (Int64 × sg)} {x1 : Int32} {x2 : Int32} {x3 : Int32} {x4 : Int32} {x5 : Int32} {x6 : Int64} {x8 : Int64} {x10 : Int32} {x11 : Int64} {x13 : Int32} {y0 : Int32} {s : sg} {rv : (Int64 × sg)} (hk32 : ∀ (x6 : Int64) (x10 : Int32) (s : sg) (rv : (Int64 × sg)), k32 x6 x10 s = some rv → mEnds [] 3 165 (32, [some (.ref 10), some (.int x1), some (.int x2), some (.int x3), some (.int x4), some (.int x5), some (.long x6), none, some (.long x8), none, some (.int x10), none, none, none, none], [], hp shM s, 0, 0) (some (.long rv.1), hp shM rv.2, 0, 0)) (hk54 : ∀ (x11 : Int64) (x13 : Int32) (s : sg) (rv : (Int64 × sg)), k54 x11 x13 s = some rv → mEnds [] 3 165 (54, [some (.ref 10), some (.int x1), some (.int x2), some (.int x3), some (.int x4), some (.int x5), some (.long x6), none, some (.long x8), none, some (.int x10), some (.long x11), none, some (.int x13), none], [], hp shM s, 0, 0) (some (.long rv.1), hp shM rv.2, 0, 0)) (hf : M_byFuse_76 k32 k54 x1 x2 x3 x4 x5 x6 x8 x10 x11 x13 y0 s = some rv) : mEnds [] 3 165 (76, [some (.ref 10), some (.int x1), some (.int x2), some (.int x3), some (.int x4), some (.int x5), some (.long x6), none, some (.long x8), none, some (.int x10), some (.long x11), none, some (.int x13), none], [.int y0], hp shM s, 0, 0) (some (.long rv.1), hp shM rv.2, 0, 0) := by
  unfold M_byFuse_76 at hf
  refine mEnds.stp 3 (pc' := 82) (l' := [some (.ref 10), some (.int x1), some (.int x2), some (.int x3), some (.int x4), some (.int x5), some (.long x6), none, some (.long x8), none, some (.int x10), some (.long x11), none, some (.int x13), some (.int y0)]) (st' := [.int y0, .long x11]) (fun _ => rfl) ?_
  by_cases hc1 : y0 = 0
  · rw [if_pos hc1] at hf
    refine t_jT (t := 90) (rfl : mfetch 165 82 = some (82, .ifCond .eq 8, 3, 0, 0, 0)) rfl (k_eq hc1) ?_
    refine mEnds.stp 4 (pc' := 95) (l' := [some (.ref 10), some (.int x1), some (.int x2), some (.int x3), some (.int x4), some (.int x5), some (.long x6), none, some (.long x8), none, some (.int x10), some (.long x11), none, some (.int x13), some (.int y0)]) (st' := [.long (((nI 10) - x1).toInt64), .long x11]) (fun _ => rfl) ?_
    refine mEnds.cut (l := [some (.ref 10), some (.int x1), some (.int x2), some (.int x3), some (.int x4), some (.int x5), some (.long x6), none, some (.long x8), none, some (.int x10), none, none, some (.int x13), some (.int y0)]) ⟨rfl, ⟨rfl, ⟨rfl, ⟨rfl, ⟨rfl, ⟨rfl, ⟨rfl, ⟨rfl, ⟨rfl, ⟨rfl, ⟨rfl, trivial⟩⟩⟩⟩⟩⟩⟩⟩⟩⟩⟩ ?_
    exact ok_M_byFuse_95 hk32 hk54 hf
  · rw [if_neg hc1] at hf
    refine t_jF (rfl : mfetch 165 82 = some (82, .ifCond .eq 8, 3, 0, 0, 0)) (k_eq' hc1) ?_
    refine mEnds.stp 3 (pc' := 95) (l' := [some (.ref 10), some (.int x1), some (.int x2), some (.int x3), some (.int x4), some (.int x5), some (.long x6), none, some (.long x8), none, some (.int x10), some (.long x11), none, some (.int x13), some (.int y0)]) (st' := [.long x1.toInt64, .long x11]) (fun _ => rfl) ?_
    refine mEnds.cut (l := [some (.ref 10), some (.int x1), some (.int x2), some (.int x3), some (.int x4), some (.int x5), some (.long x6), none, some (.long x8), none, some (.int x10), none, none, some (.int x13), some (.int y0)]) ⟨rfl, ⟨rfl, ⟨rfl, ⟨rfl, ⟨rfl, ⟨rfl, ⟨rfl, ⟨rfl, ⟨rfl, ⟨rfl, ⟨rfl, trivial⟩⟩⟩⟩⟩⟩⟩⟩⟩⟩⟩ ?_
    exact ok_M_byFuse_95 hk32 hk54 hf
def M_byFuse_169 (k32 : Int64 → Int32 → sg → Option (Int64 × sg)) (x1 : Int32) (x2 : Int32) (x3 : Int32) (x4 : Int32) (x5 : Int32) (x8 : Int64) (x10 : Int32) (y0 : Int32) (y1 : Int64) (y2 : Int64) (s : sg) : Option (Int64 × sg) :=
  k32 (y2 + (y1 * y0.toInt64)) (x10 + (nI 1)) s
set_option maxRecDepth 100000 in
theorem ok_M_byFuse_169 {k32 : Int64 → Int32 → sg → Option (Int64 × sg)} {x1 : Int32} {x2 : Int32} {x3 : Int32} {x4 : Int32} {x5 : Int32} {x8 : Int64} {x10 : Int32} {y0 : Int32} {y1 : Int64} {y2 : Int64} {s : sg} {rv : (Int64 × sg)} (hk32 : ∀ (x6 : Int64) (x10 : Int32) (s : sg) (rv : (Int64 × sg)), k32 x6 x10 s = some rv → mEnds [] 3 165 (32, [some (.ref 10), some (.int x1), some (.int x2), some (.int x3), some (.int x4), some (.int x5), some (.long x6), none, some (.long x8), none, some (.int x10), none, none, none, none], [], hp shM s, 0, 0) (some (.long rv.1), hp shM rv.2, 0, 0)) (hf : M_byFuse_169 k32 x1 x2 x3 x4 x5 x8 x10 y0 y1 y2 s = some rv) : mEnds [] 3 165 (169, [some (.ref 10), some (.int x1), some (.int x2), some (.int x3), some (.int x4), some (.int x5), none, none, some (.long x8), none, some (.int x10), none, none, none, none], [.int y0, .long y1, .long y2], hp shM s, 0, 0) (some (.long rv.1), hp shM rv.2, 0, 0) := by
  unfold M_byFuse_169 at hf
  refine mEnds.stp 6 (pc' := 32) (l' := [some (.ref 10), some (.int x1), some (.int x2), some (.int x3), some (.int x4), some (.int x5), some (.long (y2 + (y1 * y0.toInt64))), none, some (.long x8), none, some (.int (x10 + (nI 1))), none, none, none, none]) (st' := []) (fun _ => rfl) ?_
  refine mEnds.cut (l := [some (.ref 10), some (.int x1), some (.int x2), some (.int x3), some (.int x4), some (.int x5), some (.long (y2 + (y1 * y0.toInt64))), none, some (.long x8), none, some (.int (x10 + (nI 1))), none, none, none, none]) ⟨rfl, ⟨rfl, ⟨rfl, ⟨rfl, ⟨rfl, ⟨rfl, ⟨rfl, ⟨rfl, ⟨rfl, trivial⟩⟩⟩⟩⟩⟩⟩⟩⟩ ?_
  exact hk32 (y2 + (y1 * y0.toInt64)) (x10 + (nI 1)) s _ hf
def M_byFuse_54 (k32 : Int64 → Int32 → sg → Option (Int64 × sg)) (x1 : Int32) (x2 : Int32) (x3 : Int32) (x4 : Int32) (x5 : Int32) (x6 : Int64) (x8 : Int64) (x10 : Int32) : Nat → Int64 → Int32 → sg → Option (Int64 × sg)
  | 0, _, _, _ => none
  | fu + 1, x11, x13, s =>
  if x13 < x3 then
    if (x10 >>> (x13 &&& 31)) &&& (nI 1) = nI 1 then
      M_byFuse_76 k32 (M_byFuse_54 k32 x1 x2 x3 x4 x5 x6 x8 x10 fu) x1 x2 x3 x4 x5 x6 x8 x10 x11 x13 (nI 1) s
    else
      M_byFuse_76 k32 (M_byFuse_54 k32 x1 x2 x3 x4 x5 x6 x8 x10 fu) x1 x2 x3 x4 x5 x6 x8 x10 x11 x13 (nI 0) s
  else
    if x2 = (-4) then
      (midx (nI 258) 312).bind fun j2 =>
      (midx (nI 50) 312).bind fun j3 =>
      M_byFuse_169 k32 x1 x2 x3 x4 x5 x8 x10 ((s 11 j2) - (s 11 j3)) x11 x6 s
    else
      (midx ((nI 208) + x2) 312).bind fun j1 =>
      if s 11 j1 < x4 then
        M_byFuse_169 k32 x1 x2 x3 x4 x5 x8 x10 (nI 0) x11 x6 s
      else
        M_byFuse_169 k32 x1 x2 x3 x4 x5 x8 x10 (nI 1) x11 x6 s
set_option maxRecDepth 100000 in
theorem ok_M_byFuse_54 {k32 : Int64 → Int32 → sg → Option (Int64 × sg)} {x1 : Int32} {x2 : Int32} {x3 : Int32} {x4 : Int32} {x5 : Int32} {x6 : Int64} {x8 : Int64} {x10 : Int32} (hk32 : ∀ (x6 : Int64) (x10 : Int32) (s : sg) (rv : (Int64 × sg)), k32 x6 x10 s = some rv → mEnds [] 3 165 (32, [some (.ref 10), some (.int x1), some (.int x2), some (.int x3), some (.int x4), some (.int x5), some (.long x6), none, some (.long x8), none, some (.int x10), none, none, none, none], [], hp shM s, 0, 0) (some (.long rv.1), hp shM rv.2, 0, 0)) : ∀ (fu : Nat) (x11 : Int64) (x13 : Int32) (s : sg) (rv : (Int64 × sg)), M_byFuse_54 k32 x1 x2 x3 x4 x5 x6 x8 x10 fu x11 x13 s = some rv → mEnds [] 3 165 (54, [some (.ref 10), some (.int x1), some (.int x2), some (.int x3), some (.int x4), some (.int x5), some (.long x6), none, some (.long x8), none, some (.int x10), some (.long x11), none, some (.int x13), none], [], hp shM s, 0, 0) (some (.long rv.1), hp shM rv.2, 0, 0)
  | 0, _, _, _, _, hf => by cases hf
  | fu + 1, x11, x13, s, rv, hf => by
    rw [M_byFuse_54] at hf
    refine mEnds.stp 2 (pc' := 57) (l' := [some (.ref 10), some (.int x1), some (.int x2), some (.int x3), some (.int x4), some (.int x5), some (.long x6), none, some (.long x8), none, some (.int x10), some (.long x11), none, some (.int x13), none]) (st' := [.int x3, .int x13]) (fun _ => rfl) ?_
    by_cases hc1 : x13 < x3
    · rw [if_pos hc1] at hf
      refine t_cF (rfl : mfetch 165 57 = some (57, .if_icmp .ge 63, 3, 0, 0, 0)) (k_ge' hc1) ?_
      refine mEnds.stp 6 (pc' := 68) (l' := [some (.ref 10), some (.int x1), some (.int x2), some (.int x3), some (.int x4), some (.int x5), some (.long x6), none, some (.long x8), none, some (.int x10), some (.long x11), none, some (.int x13), none]) (st' := [.int (nI 1), .int ((x10 >>> (x13 &&& 31)) &&& (nI 1))]) (fun _ => rfl) ?_
      by_cases hc4 : (x10 >>> (x13 &&& 31)) &&& (nI 1) = nI 1
      · rw [if_pos hc4] at hf
        refine t_cF (rfl : mfetch 165 68 = some (68, .if_icmp .ne 7, 3, 0, 0, 0)) (k_ne' hc4) ?_
        refine mEnds.stp 2 (pc' := 76) (l' := [some (.ref 10), some (.int x1), some (.int x2), some (.int x3), some (.int x4), some (.int x5), some (.long x6), none, some (.long x8), none, some (.int x10), some (.long x11), none, some (.int x13), none]) (st' := [.int (nI 1)]) (fun _ => rfl) ?_
        refine mEnds.cut (l := [some (.ref 10), some (.int x1), some (.int x2), some (.int x3), some (.int x4), some (.int x5), some (.long x6), none, some (.long x8), none, some (.int x10), some (.long x11), none, some (.int x13), none]) ⟨rfl, ⟨rfl, ⟨rfl, ⟨rfl, ⟨rfl, ⟨rfl, ⟨rfl, ⟨rfl, ⟨rfl, ⟨rfl, ⟨rfl, trivial⟩⟩⟩⟩⟩⟩⟩⟩⟩⟩⟩ ?_
        exact ok_M_byFuse_76 hk32 (ok_M_byFuse_54 hk32 fu) hf
      · rw [if_neg hc4] at hf
        refine t_cT (t := 75) (rfl : mfetch 165 68 = some (68, .if_icmp .ne 7, 3, 0, 0, 0)) rfl (k_ne hc4) ?_
        refine mEnds.stp 1 (pc' := 76) (l' := [some (.ref 10), some (.int x1), some (.int x2), some (.int x3), some (.int x4), some (.int x5), some (.long x6), none, some (.long x8), none, some (.int x10), some (.long x11), none, some (.int x13), none]) (st' := [.int (nI 0)]) (fun _ => rfl) ?_
        refine mEnds.cut (l := [some (.ref 10), some (.int x1), some (.int x2), some (.int x3), some (.int x4), some (.int x5), some (.long x6), none, some (.long x8), none, some (.int x10), some (.long x11), none, some (.int x13), none]) ⟨rfl, ⟨rfl, ⟨rfl, ⟨rfl, ⟨rfl, ⟨rfl, ⟨rfl, ⟨rfl, ⟨rfl, ⟨rfl, ⟨rfl, trivial⟩⟩⟩⟩⟩⟩⟩⟩⟩⟩⟩ ?_
        exact ok_M_byFuse_76 hk32 (ok_M_byFuse_54 hk32 fu) hf
    · rw [if_neg hc1] at hf
      refine t_cT (t := 120) (rfl : mfetch 165 57 = some (57, .if_icmp .ge 63, 3, 0, 0, 0)) rfl (k_ge hc1) ?_
      refine mEnds.stp 4 (pc' := 127) (l' := [some (.ref 10), some (.int x1), some (.int x2), some (.int x3), some (.int x4), some (.int x5), some (.long x6), none, some (.long x8), none, some (.int x10), some (.long x11), none, some (.int x13), none]) (st' := [.int (-4), .int x2, .long x11, .long x6]) (fun _ => rfl) ?_
      by_cases hc2 : x2 = (-4)
      · rw [if_pos hc2] at hf
        refine t_cF (rfl : mfetch 165 127 = some (127, .if_icmp .ne 22, 3, 0, 0, 0)) (k_ne' hc2) ?_
        refine mEnds.stp 1 (pc' := 131) (l' := [some (.ref 10), some (.int x1), some (.int x2), some (.int x3), some (.int x4), some (.int x5), some (.long x6), none, some (.long x8), none, some (.int x10), some (.long x11), none, some (.int x13), none]) (st' := [.ref 10, .long x11, .long x6]) (fun _ => rfl) ?_
        refine t_gr (rfl : mfetch 165 131 = some (131, .getfield 7, 3, 5, 0, 0)) rfl rfl ?_
        refine mEnds.stp 1 (pc' := 137) (l' := [some (.ref 10), some (.int x1), some (.int x2), some (.int x3), some (.int x4), some (.int x5), some (.long x6), none, some (.long x8), none, some (.int x10), some (.long x11), none, some (.int x13), none]) (st' := [.int (nI 258), .ref 11, .long x11, .long x6]) (fun _ => rfl) ?_
        obtain ⟨j2, hj2, hf⟩ := ob hf
        refine t_ia (rfl : mfetch 165 137 = some (137, .iaload, 1, 0, 0, 0)) rfl rfl hj2 ?_
        refine mEnds.stp 1 (pc' := 139) (l' := [some (.ref 10), some (.int x1), some (.int x2), some (.int x3), some (.int x4), some (.int x5), some (.long x6), none, some (.long x8), none, some (.int x10), some (.long x11), none, some (.int x13), none]) (st' := [.ref 10, .int (s 11 j2), .long x11, .long x6]) (fun _ => rfl) ?_
        refine t_gr (rfl : mfetch 165 139 = some (139, .getfield 7, 3, 5, 0, 0)) rfl rfl ?_
        refine mEnds.stp 1 (pc' := 144) (l' := [some (.ref 10), some (.int x1), some (.int x2), some (.int x3), some (.int x4), some (.int x5), some (.long x6), none, some (.long x8), none, some (.int x10), some (.long x11), none, some (.int x13), none]) (st' := [.int (nI 50), .ref 11, .int (s 11 j2), .long x11, .long x6]) (fun _ => rfl) ?_
        obtain ⟨j3, hj3, hf⟩ := ob hf
        refine t_ia (rfl : mfetch 165 144 = some (144, .iaload, 1, 0, 0, 0)) rfl rfl hj3 ?_
        refine mEnds.stp 2 (pc' := 169) (l' := [some (.ref 10), some (.int x1), some (.int x2), some (.int x3), some (.int x4), some (.int x5), some (.long x6), none, some (.long x8), none, some (.int x10), some (.long x11), none, some (.int x13), none]) (st' := [.int ((s 11 j2) - (s 11 j3)), .long x11, .long x6]) (fun _ => rfl) ?_
        refine mEnds.cut (l := [some (.ref 10), some (.int x1), some (.int x2), some (.int x3), some (.int x4), some (.int x5), none, none, some (.long x8), none, some (.int x10), none, none, none, none]) ⟨rfl, ⟨rfl, ⟨rfl, ⟨rfl, ⟨rfl, ⟨rfl, ⟨rfl, ⟨rfl, trivial⟩⟩⟩⟩⟩⟩⟩⟩ ?_
        exact ok_M_byFuse_169 hk32 hf
      · rw [if_neg hc2] at hf
        refine t_cT (t := 149) (rfl : mfetch 165 127 = some (127, .if_icmp .ne 22, 3, 0, 0, 0)) rfl (k_ne hc2) ?_
        refine mEnds.stp 1 (pc' := 150) (l' := [some (.ref 10), some (.int x1), some (.int x2), some (.int x3), some (.int x4), some (.int x5), some (.long x6), none, some (.long x8), none, some (.int x10), some (.long x11), none, some (.int x13), none]) (st' := [.ref 10, .long x11, .long x6]) (fun _ => rfl) ?_
        refine t_gr (rfl : mfetch 165 150 = some (150, .getfield 7, 3, 5, 0, 0)) rfl rfl ?_
        refine mEnds.stp 3 (pc' := 158) (l' := [some (.ref 10), some (.int x1), some (.int x2), some (.int x3), some (.int x4), some (.int x5), some (.long x6), none, some (.long x8), none, some (.int x10), some (.long x11), none, some (.int x13), none]) (st' := [.int ((nI 208) + x2), .ref 11, .long x11, .long x6]) (fun _ => rfl) ?_
        obtain ⟨j1, hj1, hf⟩ := ob hf
        refine t_ia (rfl : mfetch 165 158 = some (158, .iaload, 1, 0, 0, 0)) rfl rfl hj1 ?_
        refine mEnds.stp 1 (pc' := 161) (l' := [some (.ref 10), some (.int x1), some (.int x2), some (.int x3), some (.int x4), some (.int x5), some (.long x6), none, some (.long x8), none, some (.int x10), some (.long x11), none, some (.int x13), none]) (st' := [.int x4, .int (s 11 j1), .long x11, .long x6]) (fun _ => rfl) ?_
        by_cases hc3 : s 11 j1 < x4
        · rw [if_pos hc3] at hf
          refine t_cT (t := 168) (rfl : mfetch 165 161 = some (161, .if_icmp .lt 7, 3, 0, 0, 0)) rfl (k_lt hc3) ?_
          refine mEnds.stp 1 (pc' := 169) (l' := [some (.ref 10), some (.int x1), some (.int x2), some (.int x3), some (.int x4), some (.int x5), some (.long x6), none, some (.long x8), none, some (.int x10), some (.long x11), none, some (.int x13), none]) (st' := [.int (nI 0), .long x11, .long x6]) (fun _ => rfl) ?_
          refine mEnds.cut (l := [some (.ref 10), some (.int x1), some (.int x2), some (.int x3), some (.int x4), some (.int x5), none, none, some (.long x8), none, some (.int x10), none, none, none, none]) ⟨rfl, ⟨rfl, ⟨rfl, ⟨rfl, ⟨rfl, ⟨rfl, ⟨rfl, ⟨rfl, trivial⟩⟩⟩⟩⟩⟩⟩⟩ ?_
          exact ok_M_byFuse_169 hk32 hf
        · rw [if_neg hc3] at hf
          refine t_cF (rfl : mfetch 165 161 = some (161, .if_icmp .lt 7, 3, 0, 0, 0)) (k_lt' hc3) ?_
          refine mEnds.stp 2 (pc' := 169) (l' := [some (.ref 10), some (.int x1), some (.int x2), some (.int x3), some (.int x4), some (.int x5), some (.long x6), none, some (.long x8), none, some (.int x10), some (.long x11), none, some (.int x13), none]) (st' := [.int (nI 1), .long x11, .long x6]) (fun _ => rfl) ?_
          refine mEnds.cut (l := [some (.ref 10), some (.int x1), some (.int x2), some (.int x3), some (.int x4), some (.int x5), none, none, some (.long x8), none, some (.int x10), none, none, none, none]) ⟨rfl, ⟨rfl, ⟨rfl, ⟨rfl, ⟨rfl, ⟨rfl, ⟨rfl, ⟨rfl, trivial⟩⟩⟩⟩⟩⟩⟩⟩ ?_
          exact ok_M_byFuse_169 hk32 hf
def M_byFuse_32 (x1 : Int32) (x2 : Int32) (x3 : Int32) (x4 : Int32) (x5 : Int32) (x8 : Int64) : Nat → Int64 → Int32 → sg → Option (Int64 × sg)
  | 0, _, _, _ => none
  | fu + 1, x6, x10, s =>
  if x10 < (nI 1) <<< (x3 &&& 31) then
    (M_copies (nI 0) (nI 208) s).bind fun s1 =>
    M_byFuse_54 (M_byFuse_32 x1 x2 x3 x4 x5 x8 fu) x1 x2 x3 x4 x5 x6 x8 x10 FU (1 : Int64) (nI 0) s1
  else
    (M_lowest x6 x8 x5 s).bind fun v1 =>
    some (v1, s)
set_option maxRecDepth 100000 in
theorem ok_M_byFuse_32 {x1 : Int32} {x2 : Int32} {x3 : Int32} {x4 : Int32} {x5 : Int32} {x8 : Int64} : ∀ (fu : Nat) (x6 : Int64) (x10 : Int32) (s : sg) (rv : (Int64 × sg)), M_byFuse_32 x1 x2 x3 x4 x5 x8 fu x6 x10 s = some rv → mEnds [] 3 165 (32, [some (.ref 10), some (.int x1), some (.int x2), some (.int x3), some (.int x4), some (.int x5), some (.long x6), none, some (.long x8), none, some (.int x10), none, none, none, none], [], hp shM s, 0, 0) (some (.long rv.1), hp shM rv.2, 0, 0)
  | 0, _, _, _, _, hf => by cases hf
  | fu + 1, x6, x10, s, rv, hf => by
    rw [M_byFuse_32] at hf
    refine mEnds.stp 4 (pc' := 37) (l' := [some (.ref 10), some (.int x1), some (.int x2), some (.int x3), some (.int x4), some (.int x5), some (.long x6), none, some (.long x8), none, some (.int x10), none, none, none, none]) (st' := [.int ((nI 1) <<< (x3 &&& 31)), .int x10]) (fun _ => rfl) ?_
    by_cases hc1 : x10 < (nI 1) <<< (x3 &&& 31)
    · rw [if_pos hc1] at hf
      refine t_cF (rfl : mfetch 165 37 = some (37, .if_icmp .ge 143, 3, 0, 0, 0)) (k_ge' hc1) ?_
      refine mEnds.stp 5 (pc' := 48) (l' := [some (.ref 10), some (.int x1), some (.int x2), some (.int x3), some (.int x4), some (.int x5), some (.long x6), none, some (.long x8), none, some (.int x10), some (.long (1 : Int64)), none, none, none]) (st' := [.int (nI 208), .int (nI 0), .ref 10]) (fun _ => rfl) ?_
      obtain ⟨s1, hs1, hf⟩ := ob hf
      refine t_cv (as := [.int (nI 0), .int (nI 208)]) (st := []) (rfl : mfetch 165 48 = some (48, .invokevirtual 201, 3, 152, 0, 0)) rfl rfl rfl rfl rfl ((ok_M_copies hs1).deep 2) ?_
      refine mEnds.stp 2 (pc' := 54) (l' := [some (.ref 10), some (.int x1), some (.int x2), some (.int x3), some (.int x4), some (.int x5), some (.long x6), none, some (.long x8), none, some (.int x10), some (.long (1 : Int64)), none, some (.int (nI 0)), none]) (st' := []) (fun _ => rfl) ?_
      refine mEnds.cut (l := [some (.ref 10), some (.int x1), some (.int x2), some (.int x3), some (.int x4), some (.int x5), some (.long x6), none, some (.long x8), none, some (.int x10), some (.long (1 : Int64)), none, some (.int (nI 0)), none]) ⟨rfl, ⟨rfl, ⟨rfl, ⟨rfl, ⟨rfl, ⟨rfl, ⟨rfl, ⟨rfl, ⟨rfl, ⟨rfl, ⟨rfl, trivial⟩⟩⟩⟩⟩⟩⟩⟩⟩⟩⟩ ?_
      exact ok_M_byFuse_54 (ok_M_byFuse_32 fu) FU (1 : Int64) (nI 0) s1 _ hf
    · rw [if_neg hc1] at hf
      refine t_cT (t := 180) (rfl : mfetch 165 37 = some (37, .if_icmp .ge 143, 3, 0, 0, 0)) rfl (k_ge hc1) ?_
      refine mEnds.stp 3 (pc' := 186) (l' := [some (.ref 10), some (.int x1), some (.int x2), some (.int x3), some (.int x4), some (.int x5), some (.long x6), none, some (.long x8), none, some (.int x10), none, none, none, none]) (st' := [.int x5, .long x8, .long x6]) (fun _ => rfl) ?_
      obtain ⟨v1, hv1, hf⟩ := ob hf
      refine t_cs (as := [.long x6, .long x8, .int x5]) (st := []) (Or.inl rfl) (rfl : mfetch 165 186 = some (186, .invokestatic 225, 3, 164, 0, 0)) rfl rfl rfl ((ok_M_lowest hv1).deep 2) ?_
      exact mEnds.rtl (Option.some.inj hf) (fun _ => rfl)
def M_byFuse_9 (x1 : Int32) (x2 : Int32) (x3 : Int32) (x4 : Int32) (x5 : Int32) (x6 : Int64) : Nat → Int64 → Int32 → sg → Option (Int64 × sg)
  | 0, _, _, _ => none
  | fu + 1, x8, x10, s =>
  if x10 < x3 then
    M_byFuse_9 x1 x2 x3 x4 x5 x6 fu (x8 * (10 : Int64)) (x10 + (nI 1)) s
  else
    M_byFuse_32 x1 x2 x3 x4 x5 x8 FU x6 (nI 0) s
set_option maxRecDepth 100000 in
theorem ok_M_byFuse_9 {x1 : Int32} {x2 : Int32} {x3 : Int32} {x4 : Int32} {x5 : Int32} {x6 : Int64} : ∀ (fu : Nat) (x8 : Int64) (x10 : Int32) (s : sg) (rv : (Int64 × sg)), M_byFuse_9 x1 x2 x3 x4 x5 x6 fu x8 x10 s = some rv → mEnds [] 3 165 (9, [some (.ref 10), some (.int x1), some (.int x2), some (.int x3), some (.int x4), some (.int x5), some (.long x6), none, some (.long x8), none, some (.int x10), none, none, none, none], [], hp shM s, 0, 0) (some (.long rv.1), hp shM rv.2, 0, 0)
  | 0, _, _, _, _, hf => by cases hf
  | fu + 1, x8, x10, s, rv, hf => by
    rw [M_byFuse_9] at hf
    refine mEnds.stp 2 (pc' := 12) (l' := [some (.ref 10), some (.int x1), some (.int x2), some (.int x3), some (.int x4), some (.int x5), some (.long x6), none, some (.long x8), none, some (.int x10), none, none, none, none]) (st' := [.int x3, .int x10]) (fun _ => rfl) ?_
    by_cases hc1 : x10 < x3
    · rw [if_pos hc1] at hf
      refine t_cF (rfl : mfetch 165 12 = some (12, .if_icmp .ge 17, 3, 0, 0, 0)) (k_ge' hc1) ?_
      refine mEnds.stp 6 (pc' := 9) (l' := [some (.ref 10), some (.int x1), some (.int x2), some (.int x3), some (.int x4), some (.int x5), some (.long x6), none, some (.long (x8 * (10 : Int64))), none, some (.int (x10 + (nI 1))), none, none, none, none]) (st' := []) (fun _ => rfl) ?_
      refine mEnds.cut (l := [some (.ref 10), some (.int x1), some (.int x2), some (.int x3), some (.int x4), some (.int x5), some (.long x6), none, some (.long (x8 * (10 : Int64))), none, some (.int (x10 + (nI 1))), none, none, none, none]) ⟨rfl, ⟨rfl, ⟨rfl, ⟨rfl, ⟨rfl, ⟨rfl, ⟨rfl, ⟨rfl, ⟨rfl, trivial⟩⟩⟩⟩⟩⟩⟩⟩⟩ ?_
      exact ok_M_byFuse_9 fu (x8 * (10 : Int64)) (x10 + (nI 1)) s _ hf
    · rw [if_neg hc1] at hf
      refine t_cT (t := 29) (rfl : mfetch 165 12 = some (12, .if_icmp .ge 17, 3, 0, 0, 0)) rfl (k_ge hc1) ?_
      refine mEnds.stp 2 (pc' := 32) (l' := [some (.ref 10), some (.int x1), some (.int x2), some (.int x3), some (.int x4), some (.int x5), some (.long x6), none, some (.long x8), none, some (.int (nI 0)), none, none, none, none]) (st' := []) (fun _ => rfl) ?_
      refine mEnds.cut (l := [some (.ref 10), some (.int x1), some (.int x2), some (.int x3), some (.int x4), some (.int x5), some (.long x6), none, some (.long x8), none, some (.int (nI 0)), none, none, none, none]) ⟨rfl, ⟨rfl, ⟨rfl, ⟨rfl, ⟨rfl, ⟨rfl, ⟨rfl, ⟨rfl, ⟨rfl, trivial⟩⟩⟩⟩⟩⟩⟩⟩⟩ ?_
      exact ok_M_byFuse_32 FU x6 (nI 0) s _ hf
def M_byFuse (x1 : Int32) (x2 : Int32) (x3 : Int32) (x4 : Int32) (x5 : Int32) (s : sg) : Option (Int64 × sg) :=
  M_byFuse_9 x1 x2 x3 x4 x5 (0 : Int64) FU (1 : Int64) (nI 0) s
set_option maxRecDepth 100000 in
theorem ok_M_byFuse {x1 : Int32} {x2 : Int32} {x3 : Int32} {x4 : Int32} {x5 : Int32} {s : sg} {rv : (Int64 × sg)} (hf : M_byFuse x1 x2 x3 x4 x5 s = some rv) : mEnds [] 3 165 (0, [some (.ref 10), some (.int x1), some (.int x2), some (.int x3), some (.int x4), some (.int x5), none, none, none, none, none, none, none, none, none], [], hp shM s, 0, 0) (some (.long rv.1), hp shM rv.2, 0, 0) := by
  unfold M_byFuse at hf
  refine mEnds.stp 6 (pc' := 9) (l' := [some (.ref 10), some (.int x1), some (.int x2), some (.int x3), some (.int x4), some (.int x5), some (.long (0 : Int64)), none, some (.long (1 : Int64)), none, some (.int (nI 0)), none, none, none, none]) (st' := []) (fun _ => rfl) ?_
  refine mEnds.cut (l := [some (.ref 10), some (.int x1), some (.int x2), some (.int x3), some (.int x4), some (.int x5), some (.long (0 : Int64)), none, some (.long (1 : Int64)), none, some (.int (nI 0)), none, none, none, none]) ⟨rfl, ⟨rfl, ⟨rfl, ⟨rfl, ⟨rfl, ⟨rfl, ⟨rfl, ⟨rfl, ⟨rfl, trivial⟩⟩⟩⟩⟩⟩⟩⟩⟩ ?_
  exact ok_M_byFuse_9 FU (1 : Int64) (nI 0) s _ hf
def M_luck (x1 : Int32) (x2 : Int32) (x3 : Int32) (x4 : Int32) (x5 : Int32) (s : sg) : Option (Int64 × sg) :=
  (M_in x1.toInt64 (0 : Int64) (10 : Int64) s).bind fun v1 =>
  if v1 = 0 then
    some ((-1 : Int64), s)
  else
    (M_isRoom x2 s).bind fun v2 =>
    if v2 = 0 then
      some ((-1 : Int64), s)
    else
      (M_in x3.toInt64 (0 : Int64) (8 : Int64) s).bind fun v3 =>
      if v3 = 0 then
        some ((-1 : Int64), s)
      else
        (M_in x4.toInt64 (0 : Int64) (99 : Int64) s).bind fun v4 =>
        if v4 = 0 then
          some ((-1 : Int64), s)
        else
          (M_in x5.toInt64 (0 : Int64) (1 : Int64) s).bind fun v5 =>
          if v5 = 0 then
            some ((-1 : Int64), s)
          else
            (M_byFuse x1 x2 x3 x4 x5 s).bind fun v6 =>
            some (v6.1, v6.2)
set_option maxRecDepth 100000 in
theorem ok_M_luck {x1 : Int32} {x2 : Int32} {x3 : Int32} {x4 : Int32} {x5 : Int32} {s : sg} {rv : (Int64 × sg)} (hf : M_luck x1 x2 x3 x4 x5 s = some rv) : mEnds [] 4 166 (0, [some (.ref 10), some (.int x1), some (.int x2), some (.int x3), some (.int x4), some (.int x5)], [], hp shM s, 0, 0) (some (.long rv.1), hp shM rv.2, 0, 0) := by
  unfold M_luck at hf
  refine mEnds.stp 4 (pc' := 6) (l' := [some (.ref 10), some (.int x1), some (.int x2), some (.int x3), some (.int x4), some (.int x5)]) (st' := [.long (10 : Int64), .long (0 : Int64), .long x1.toInt64]) (fun _ => rfl) ?_
  obtain ⟨v1, hv1, hf⟩ := ob hf
  refine t_cs (as := [.long x1.toInt64, .long (0 : Int64), .long (10 : Int64)]) (st := []) (Or.inl rfl) (rfl : mfetch 166 6 = some (6, .invokestatic 49, 3, 111, 0, 0)) rfl rfl rfl ((ok_M_in hv1).deep 3) ?_
  by_cases hc1 : v1 = 0
  · rw [if_pos hc1] at hf
    refine t_jT (t := 70) (rfl : mfetch 166 9 = some (9, .ifCond .eq 61, 3, 0, 0, 0)) rfl (k_eq hc1) ?_
    refine mEnds.stp 1 (pc' := 73) (l' := [some (.ref 10), some (.int x1), some (.int x2), some (.int x3), some (.int x4), some (.int x5)]) (st' := [.long (-1 : Int64)]) (fun _ => rfl) ?_
    exact mEnds.rtl (Option.some.inj hf) (fun _ => rfl)
  · rw [if_neg hc1] at hf
    refine t_jF (rfl : mfetch 166 9 = some (9, .ifCond .eq 61, 3, 0, 0, 0)) (k_eq' hc1) ?_
    refine mEnds.stp 2 (pc' := 14) (l' := [some (.ref 10), some (.int x1), some (.int x2), some (.int x3), some (.int x4), some (.int x5)]) (st' := [.int x2, .ref 10]) (fun _ => rfl) ?_
    obtain ⟨v2, hv2, hf⟩ := ob hf
    refine t_cv (as := [.int x2]) (st := []) (rfl : mfetch 166 14 = some (14, .invokevirtual 167, 3, 126, 0, 0)) rfl rfl rfl rfl rfl ((ok_M_isRoom hv2).deep 2) ?_
    by_cases hc2 : v2 = 0
    · rw [if_pos hc2] at hf
      refine t_jT (t := 70) (rfl : mfetch 166 17 = some (17, .ifCond .eq 53, 3, 0, 0, 0)) rfl (k_eq hc2) ?_
      refine mEnds.stp 1 (pc' := 73) (l' := [some (.ref 10), some (.int x1), some (.int x2), some (.int x3), some (.int x4), some (.int x5)]) (st' := [.long (-1 : Int64)]) (fun _ => rfl) ?_
      exact mEnds.rtl (Option.some.inj hf) (fun _ => rfl)
    · rw [if_neg hc2] at hf
      refine t_jF (rfl : mfetch 166 17 = some (17, .ifCond .eq 53, 3, 0, 0, 0)) (k_eq' hc2) ?_
      refine mEnds.stp 4 (pc' := 26) (l' := [some (.ref 10), some (.int x1), some (.int x2), some (.int x3), some (.int x4), some (.int x5)]) (st' := [.long (8 : Int64), .long (0 : Int64), .long x3.toInt64]) (fun _ => rfl) ?_
      obtain ⟨v3, hv3, hf⟩ := ob hf
      refine t_cs (as := [.long x3.toInt64, .long (0 : Int64), .long (8 : Int64)]) (st := []) (Or.inl rfl) (rfl : mfetch 166 26 = some (26, .invokestatic 49, 3, 111, 0, 0)) rfl rfl rfl ((ok_M_in hv3).deep 3) ?_
      by_cases hc3 : v3 = 0
      · rw [if_pos hc3] at hf
        refine t_jT (t := 70) (rfl : mfetch 166 29 = some (29, .ifCond .eq 41, 3, 0, 0, 0)) rfl (k_eq hc3) ?_
        refine mEnds.stp 1 (pc' := 73) (l' := [some (.ref 10), some (.int x1), some (.int x2), some (.int x3), some (.int x4), some (.int x5)]) (st' := [.long (-1 : Int64)]) (fun _ => rfl) ?_
        exact mEnds.rtl (Option.some.inj hf) (fun _ => rfl)
      · rw [if_neg hc3] at hf
        refine t_jF (rfl : mfetch 166 29 = some (29, .ifCond .eq 41, 3, 0, 0, 0)) (k_eq' hc3) ?_
        refine mEnds.stp 4 (pc' := 39) (l' := [some (.ref 10), some (.int x1), some (.int x2), some (.int x3), some (.int x4), some (.int x5)]) (st' := [.long (99 : Int64), .long (0 : Int64), .long x4.toInt64]) (fun _ => rfl) ?_
        obtain ⟨v4, hv4, hf⟩ := ob hf
        refine t_cs (as := [.long x4.toInt64, .long (0 : Int64), .long (99 : Int64)]) (st := []) (Or.inl rfl) (rfl : mfetch 166 39 = some (39, .invokestatic 49, 3, 111, 0, 0)) rfl rfl rfl ((ok_M_in hv4).deep 3) ?_
        by_cases hc4 : v4 = 0
        · rw [if_pos hc4] at hf
          refine t_jT (t := 70) (rfl : mfetch 166 42 = some (42, .ifCond .eq 28, 3, 0, 0, 0)) rfl (k_eq hc4) ?_
          refine mEnds.stp 1 (pc' := 73) (l' := [some (.ref 10), some (.int x1), some (.int x2), some (.int x3), some (.int x4), some (.int x5)]) (st' := [.long (-1 : Int64)]) (fun _ => rfl) ?_
          exact mEnds.rtl (Option.some.inj hf) (fun _ => rfl)
        · rw [if_neg hc4] at hf
          refine t_jF (rfl : mfetch 166 42 = some (42, .ifCond .eq 28, 3, 0, 0, 0)) (k_eq' hc4) ?_
          refine mEnds.stp 4 (pc' := 50) (l' := [some (.ref 10), some (.int x1), some (.int x2), some (.int x3), some (.int x4), some (.int x5)]) (st' := [.long (1 : Int64), .long (0 : Int64), .long x5.toInt64]) (fun _ => rfl) ?_
          obtain ⟨v5, hv5, hf⟩ := ob hf
          refine t_cs (as := [.long x5.toInt64, .long (0 : Int64), .long (1 : Int64)]) (st := []) (Or.inl rfl) (rfl : mfetch 166 50 = some (50, .invokestatic 49, 3, 111, 0, 0)) rfl rfl rfl ((ok_M_in hv5).deep 3) ?_
          by_cases hc5 : v5 = 0
          · rw [if_pos hc5] at hf
            refine t_jT (t := 70) (rfl : mfetch 166 53 = some (53, .ifCond .eq 17, 3, 0, 0, 0)) rfl (k_eq hc5) ?_
            refine mEnds.stp 1 (pc' := 73) (l' := [some (.ref 10), some (.int x1), some (.int x2), some (.int x3), some (.int x4), some (.int x5)]) (st' := [.long (-1 : Int64)]) (fun _ => rfl) ?_
            exact mEnds.rtl (Option.some.inj hf) (fun _ => rfl)
          · rw [if_neg hc5] at hf
            refine t_jF (rfl : mfetch 166 53 = some (53, .ifCond .eq 17, 3, 0, 0, 0)) (k_eq' hc5) ?_
            refine mEnds.stp 6 (pc' := 64) (l' := [some (.ref 10), some (.int x1), some (.int x2), some (.int x3), some (.int x4), some (.int x5)]) (st' := [.int x5, .int x4, .int x3, .int x2, .int x1, .ref 10]) (fun _ => rfl) ?_
            obtain ⟨v6, hv6, hf⟩ := ob hf
            refine t_cv (as := [.int x1, .int x2, .int x3, .int x4, .int x5]) (st := []) (rfl : mfetch 166 64 = some (64, .invokevirtual 231, 3, 165, 0, 0)) rfl rfl rfl rfl rfl (ok_M_byFuse hv6) ?_
            refine mEnds.stp 1 (pc' := 73) (l' := [some (.ref 10), some (.int x1), some (.int x2), some (.int x3), some (.int x4), some (.int x5)]) (st' := [.long v6.1]) (fun _ => rfl) ?_
            exact mEnds.rtl (Option.some.inj hf) (fun _ => rfl)
def M_mean (x1 : Int32) (x2 : Int32) (x3 : Int32) (s : sg) : Option (Int64 × sg) :=
  (M_in x1.toInt64 (0 : Int64) (10 : Int64) s).bind fun v1 =>
  if v1 = 0 then
    some ((-1 : Int64), s)
  else
    (M_in x2.toInt64 (0 : Int64) (8 : Int64) s).bind fun v2 =>
    if v2 = 0 then
      some ((-1 : Int64), s)
    else
      (M_in x3.toInt64 (0 : Int64) (1 : Int64) s).bind fun v3 =>
      if v3 = 0 then
        some ((-1 : Int64), s)
      else
        (M_byFuse x1 (-4) x2 (nI 0) x3 s).bind fun v4 =>
        some (v4.1, v4.2)
set_option maxRecDepth 100000 in
theorem ok_M_mean {x1 : Int32} {x2 : Int32} {x3 : Int32} {s : sg} {rv : (Int64 × sg)} (hf : M_mean x1 x2 x3 s = some rv) : mEnds [] 4 167 (0, [some (.ref 10), some (.int x1), some (.int x2), some (.int x3)], [], hp shM s, 0, 0) (some (.long rv.1), hp shM rv.2, 0, 0) := by
  unfold M_mean at hf
  refine mEnds.stp 4 (pc' := 6) (l' := [some (.ref 10), some (.int x1), some (.int x2), some (.int x3)]) (st' := [.long (10 : Int64), .long (0 : Int64), .long x1.toInt64]) (fun _ => rfl) ?_
  obtain ⟨v1, hv1, hf⟩ := ob hf
  refine t_cs (as := [.long x1.toInt64, .long (0 : Int64), .long (10 : Int64)]) (st := []) (Or.inl rfl) (rfl : mfetch 167 6 = some (6, .invokestatic 49, 3, 111, 0, 0)) rfl rfl rfl ((ok_M_in hv1).deep 3) ?_
  by_cases hc1 : v1 = 0
  · rw [if_pos hc1] at hf
    refine t_jT (t := 47) (rfl : mfetch 167 9 = some (9, .ifCond .eq 38, 3, 0, 0, 0)) rfl (k_eq hc1) ?_
    refine mEnds.stp 1 (pc' := 50) (l' := [some (.ref 10), some (.int x1), some (.int x2), some (.int x3)]) (st' := [.long (-1 : Int64)]) (fun _ => rfl) ?_
    exact mEnds.rtl (Option.some.inj hf) (fun _ => rfl)
  · rw [if_neg hc1] at hf
    refine t_jF (rfl : mfetch 167 9 = some (9, .ifCond .eq 38, 3, 0, 0, 0)) (k_eq' hc1) ?_
    refine mEnds.stp 4 (pc' := 18) (l' := [some (.ref 10), some (.int x1), some (.int x2), some (.int x3)]) (st' := [.long (8 : Int64), .long (0 : Int64), .long x2.toInt64]) (fun _ => rfl) ?_
    obtain ⟨v2, hv2, hf⟩ := ob hf
    refine t_cs (as := [.long x2.toInt64, .long (0 : Int64), .long (8 : Int64)]) (st := []) (Or.inl rfl) (rfl : mfetch 167 18 = some (18, .invokestatic 49, 3, 111, 0, 0)) rfl rfl rfl ((ok_M_in hv2).deep 3) ?_
    by_cases hc2 : v2 = 0
    · rw [if_pos hc2] at hf
      refine t_jT (t := 47) (rfl : mfetch 167 21 = some (21, .ifCond .eq 26, 3, 0, 0, 0)) rfl (k_eq hc2) ?_
      refine mEnds.stp 1 (pc' := 50) (l' := [some (.ref 10), some (.int x1), some (.int x2), some (.int x3)]) (st' := [.long (-1 : Int64)]) (fun _ => rfl) ?_
      exact mEnds.rtl (Option.some.inj hf) (fun _ => rfl)
    · rw [if_neg hc2] at hf
      refine t_jF (rfl : mfetch 167 21 = some (21, .ifCond .eq 26, 3, 0, 0, 0)) (k_eq' hc2) ?_
      refine mEnds.stp 4 (pc' := 28) (l' := [some (.ref 10), some (.int x1), some (.int x2), some (.int x3)]) (st' := [.long (1 : Int64), .long (0 : Int64), .long x3.toInt64]) (fun _ => rfl) ?_
      obtain ⟨v3, hv3, hf⟩ := ob hf
      refine t_cs (as := [.long x3.toInt64, .long (0 : Int64), .long (1 : Int64)]) (st := []) (Or.inl rfl) (rfl : mfetch 167 28 = some (28, .invokestatic 49, 3, 111, 0, 0)) rfl rfl rfl ((ok_M_in hv3).deep 3) ?_
      by_cases hc3 : v3 = 0
      · rw [if_pos hc3] at hf
        refine t_jT (t := 47) (rfl : mfetch 167 31 = some (31, .ifCond .eq 16, 3, 0, 0, 0)) rfl (k_eq hc3) ?_
        refine mEnds.stp 1 (pc' := 50) (l' := [some (.ref 10), some (.int x1), some (.int x2), some (.int x3)]) (st' := [.long (-1 : Int64)]) (fun _ => rfl) ?_
        exact mEnds.rtl (Option.some.inj hf) (fun _ => rfl)
      · rw [if_neg hc3] at hf
        refine t_jF (rfl : mfetch 167 31 = some (31, .ifCond .eq 16, 3, 0, 0, 0)) (k_eq' hc3) ?_
        refine mEnds.stp 6 (pc' := 41) (l' := [some (.ref 10), some (.int x1), some (.int x2), some (.int x3)]) (st' := [.int x3, .int (nI 0), .int x2, .int (-4), .int x1, .ref 10]) (fun _ => rfl) ?_
        obtain ⟨v4, hv4, hf⟩ := ob hf
        refine t_cv (as := [.int x1, .int (-4), .int x2, .int (nI 0), .int x3]) (st := []) (rfl : mfetch 167 41 = some (41, .invokevirtual 231, 3, 165, 0, 0)) rfl rfl rfl rfl rfl (ok_M_byFuse hv4) ?_
        refine mEnds.stp 1 (pc' := 50) (l' := [some (.ref 10), some (.int x1), some (.int x2), some (.int x3)]) (st' := [.long v4.1]) (fun _ => rfl) ?_
        exact mEnds.rtl (Option.some.inj hf) (fun _ => rfl)
def M_see (x1 : Int32) (x2 : Int32) (x3 : Int32) (s : sg) : Option (Int32 × sg) :=
  (M_in x1.toInt64 (0 : Int64) (20 : Int64) s).bind fun v1 =>
  if v1 = 0 then
    some ((-1), s)
  else
    (M_isRoom x2 s).bind fun v2 =>
    if v2 = 0 then
      some ((-1), s)
    else
      (M_in x3.toInt64 (0 : Int64) (99 : Int64) s).bind fun v3 =>
      if v3 = 0 then
        some ((-1), s)
      else
        if s 10 22 = nI 6 then
          some ((-3), s)
        else
          (midx ((nI 3) * (s 10 22)) 18).bind fun j1 =>
          (some (up s 17 j1 x1)).bind fun s1 =>
          (midx (((nI 3) * (s1 10 22)) + (nI 1)) 18).bind fun j2 =>
          (some (up s1 17 j2 x2)).bind fun s2 =>
          (midx (((nI 3) * (s2 10 22)) + (nI 2)) 18).bind fun j3 =>
          (some (up s2 17 j3 x3)).bind fun s3 =>
          (some (up s3 10 22 ((s3 10 22) + (nI 1)))).bind fun s4 =>
          some (s4 10 22, s4)
set_option maxRecDepth 100000 in
theorem ok_M_see {x1 : Int32} {x2 : Int32} {x3 : Int32} {s : sg} {rv : (Int32 × sg)} (hf : M_see x1 x2 x3 s = some rv) : mEnds [] 2 168 (0, [some (.ref 10), some (.int x1), some (.int x2), some (.int x3)], [], hp shM s, 0, 0) (some (.int rv.1), hp shM rv.2, 0, 0) := by
  unfold M_see at hf
  refine mEnds.stp 4 (pc' := 6) (l' := [some (.ref 10), some (.int x1), some (.int x2), some (.int x3)]) (st' := [.long (20 : Int64), .long (0 : Int64), .long x1.toInt64]) (fun _ => rfl) ?_
  obtain ⟨v1, hv1, hf⟩ := ob hf
  refine t_cs (as := [.long x1.toInt64, .long (0 : Int64), .long (20 : Int64)]) (st := []) (Or.inl rfl) (rfl : mfetch 168 6 = some (6, .invokestatic 49, 3, 111, 0, 0)) rfl rfl rfl ((ok_M_in hv1).deep 1) ?_
  by_cases hc1 : v1 = 0
  · rw [if_pos hc1] at hf
    refine t_jT (t := 32) (rfl : mfetch 168 9 = some (9, .ifCond .eq 23, 3, 0, 0, 0)) rfl (k_eq hc1) ?_
    refine mEnds.stp 1 (pc' := 33) (l' := [some (.ref 10), some (.int x1), some (.int x2), some (.int x3)]) (st' := [.int (-1)]) (fun _ => rfl) ?_
    exact mEnds.rti (Option.some.inj hf) (fun _ => rfl)
  · rw [if_neg hc1] at hf
    refine t_jF (rfl : mfetch 168 9 = some (9, .ifCond .eq 23, 3, 0, 0, 0)) (k_eq' hc1) ?_
    refine mEnds.stp 2 (pc' := 14) (l' := [some (.ref 10), some (.int x1), some (.int x2), some (.int x3)]) (st' := [.int x2, .ref 10]) (fun _ => rfl) ?_
    obtain ⟨v2, hv2, hf⟩ := ob hf
    refine t_cv (as := [.int x2]) (st := []) (rfl : mfetch 168 14 = some (14, .invokevirtual 167, 3, 126, 0, 0)) rfl rfl rfl rfl rfl (ok_M_isRoom hv2) ?_
    by_cases hc2 : v2 = 0
    · rw [if_pos hc2] at hf
      refine t_jT (t := 32) (rfl : mfetch 168 17 = some (17, .ifCond .eq 15, 3, 0, 0, 0)) rfl (k_eq hc2) ?_
      refine mEnds.stp 1 (pc' := 33) (l' := [some (.ref 10), some (.int x1), some (.int x2), some (.int x3)]) (st' := [.int (-1)]) (fun _ => rfl) ?_
      exact mEnds.rti (Option.some.inj hf) (fun _ => rfl)
    · rw [if_neg hc2] at hf
      refine t_jF (rfl : mfetch 168 17 = some (17, .ifCond .eq 15, 3, 0, 0, 0)) (k_eq' hc2) ?_
      refine mEnds.stp 4 (pc' := 26) (l' := [some (.ref 10), some (.int x1), some (.int x2), some (.int x3)]) (st' := [.long (99 : Int64), .long (0 : Int64), .long x3.toInt64]) (fun _ => rfl) ?_
      obtain ⟨v3, hv3, hf⟩ := ob hf
      refine t_cs (as := [.long x3.toInt64, .long (0 : Int64), .long (99 : Int64)]) (st := []) (Or.inl rfl) (rfl : mfetch 168 26 = some (26, .invokestatic 49, 3, 111, 0, 0)) rfl rfl rfl ((ok_M_in hv3).deep 1) ?_
      by_cases hc3 : v3 = 0
      · rw [if_pos hc3] at hf
        refine t_jF (rfl : mfetch 168 29 = some (29, .ifCond .ne 5, 3, 0, 0, 0)) (k_ne' hc3) ?_
        refine mEnds.stp 1 (pc' := 33) (l' := [some (.ref 10), some (.int x1), some (.int x2), some (.int x3)]) (st' := [.int (-1)]) (fun _ => rfl) ?_
        exact mEnds.rti (Option.some.inj hf) (fun _ => rfl)
      · rw [if_neg hc3] at hf
        refine t_jT (t := 34) (rfl : mfetch 168 29 = some (29, .ifCond .ne 5, 3, 0, 0, 0)) rfl (k_ne hc3) ?_
        refine mEnds.stp 1 (pc' := 35) (l' := [some (.ref 10), some (.int x1), some (.int x2), some (.int x3)]) (st' := [.ref 10]) (fun _ => rfl) ?_
        refine t_gi (rfl : mfetch 168 35 = some (35, .getfield 142, 3, 5, 22, 0)) rfl rfl ?_
        refine mEnds.stp 1 (pc' := 40) (l' := [some (.ref 10), some (.int x1), some (.int x2), some (.int x3)]) (st' := [.int (nI 6), .int (s 10 22)]) (fun _ => rfl) ?_
        by_cases hc4 : s 10 22 = nI 6
        · rw [if_pos hc4] at hf
          refine t_cF (rfl : mfetch 168 40 = some (40, .if_icmp .ne 6, 3, 0, 0, 0)) (k_ne' hc4) ?_
          refine mEnds.stp 1 (pc' := 45) (l' := [some (.ref 10), some (.int x1), some (.int x2), some (.int x3)]) (st' := [.int (-3)]) (fun _ => rfl) ?_
          exact mEnds.rti (Option.some.inj hf) (fun _ => rfl)
        · rw [if_neg hc4] at hf
          refine t_cT (t := 46) (rfl : mfetch 168 40 = some (40, .if_icmp .ne 6, 3, 0, 0, 0)) rfl (k_ne hc4) ?_
          refine mEnds.stp 1 (pc' := 47) (l' := [some (.ref 10), some (.int x1), some (.int x2), some (.int x3)]) (st' := [.ref 10]) (fun _ => rfl) ?_
          refine t_gr (rfl : mfetch 168 47 = some (47, .getfield 28, 3, 5, 21, 0)) rfl rfl ?_
          refine mEnds.stp 2 (pc' := 52) (l' := [some (.ref 10), some (.int x1), some (.int x2), some (.int x3)]) (st' := [.ref 10, .int (nI 3), .ref 17]) (fun _ => rfl) ?_
          refine t_gi (rfl : mfetch 168 52 = some (52, .getfield 142, 3, 5, 22, 0)) rfl rfl ?_
          refine mEnds.stp 2 (pc' := 57) (l' := [some (.ref 10), some (.int x1), some (.int x2), some (.int x3)]) (st' := [.int x1, .int ((nI 3) * (s 10 22)), .ref 17]) (fun _ => rfl) ?_
          obtain ⟨j1, hj1, hf⟩ := ob hf
          obtain ⟨s1, hs1, hf⟩ := ob hf
          refine t_is (rfl : mfetch 168 57 = some (57, .iastore, 1, 0, 0, 0)) rfl rfl hj1 hs1 ?_
          refine mEnds.stp 1 (pc' := 59) (l' := [some (.ref 10), some (.int x1), some (.int x2), some (.int x3)]) (st' := [.ref 10]) (fun _ => rfl) ?_
          refine t_gr (rfl : mfetch 168 59 = some (59, .getfield 28, 3, 5, 21, 0)) rfl rfl ?_
          refine mEnds.stp 2 (pc' := 64) (l' := [some (.ref 10), some (.int x1), some (.int x2), some (.int x3)]) (st' := [.ref 10, .int (nI 3), .ref 17]) (fun _ => rfl) ?_
          refine t_gi (rfl : mfetch 168 64 = some (64, .getfield 142, 3, 5, 22, 0)) rfl rfl ?_
          refine mEnds.stp 4 (pc' := 71) (l' := [some (.ref 10), some (.int x1), some (.int x2), some (.int x3)]) (st' := [.int x2, .int (((nI 3) * (s1 10 22)) + (nI 1)), .ref 17]) (fun _ => rfl) ?_
          obtain ⟨j2, hj2, hf⟩ := ob hf
          obtain ⟨s2, hs2, hf⟩ := ob hf
          refine t_is (rfl : mfetch 168 71 = some (71, .iastore, 1, 0, 0, 0)) rfl rfl hj2 hs2 ?_
          refine mEnds.stp 1 (pc' := 73) (l' := [some (.ref 10), some (.int x1), some (.int x2), some (.int x3)]) (st' := [.ref 10]) (fun _ => rfl) ?_
          refine t_gr (rfl : mfetch 168 73 = some (73, .getfield 28, 3, 5, 21, 0)) rfl rfl ?_
          refine mEnds.stp 2 (pc' := 78) (l' := [some (.ref 10), some (.int x1), some (.int x2), some (.int x3)]) (st' := [.ref 10, .int (nI 3), .ref 17]) (fun _ => rfl) ?_
          refine t_gi (rfl : mfetch 168 78 = some (78, .getfield 142, 3, 5, 22, 0)) rfl rfl ?_
          refine mEnds.stp 4 (pc' := 85) (l' := [some (.ref 10), some (.int x1), some (.int x2), some (.int x3)]) (st' := [.int x3, .int (((nI 3) * (s2 10 22)) + (nI 2)), .ref 17]) (fun _ => rfl) ?_
          obtain ⟨j3, hj3, hf⟩ := ob hf
          obtain ⟨s3, hs3, hf⟩ := ob hf
          refine t_is (rfl : mfetch 168 85 = some (85, .iastore, 1, 0, 0, 0)) rfl rfl hj3 hs3 ?_
          refine mEnds.stp 2 (pc' := 88) (l' := [some (.ref 10), some (.int x1), some (.int x2), some (.int x3)]) (st' := [.ref 10, .ref 10]) (fun _ => rfl) ?_
          refine t_gi (rfl : mfetch 168 88 = some (88, .getfield 142, 3, 5, 22, 0)) rfl rfl ?_
          refine mEnds.stp 2 (pc' := 93) (l' := [some (.ref 10), some (.int x1), some (.int x2), some (.int x3)]) (st' := [.int ((s3 10 22) + (nI 1)), .ref 10]) (fun _ => rfl) ?_
          obtain ⟨s4, hs4, hf⟩ := ob hf
          refine t_pi (rfl : mfetch 168 93 = some (93, .putfield 142, 3, 5, 22, 0)) rfl rfl rfl rfl hs4 ?_
          refine mEnds.stp 1 (pc' := 97) (l' := [some (.ref 10), some (.int x1), some (.int x2), some (.int x3)]) (st' := [.ref 10]) (fun _ => rfl) ?_
          refine t_gi (rfl : mfetch 168 97 = some (97, .getfield 142, 3, 5, 22, 0)) rfl rfl ?_
          exact mEnds.rti (Option.some.inj hf) (fun _ => rfl)
def M_forget (x1 : Int32) (s : sg) : Option (Int32 × sg) :=
  (M_in x1.toInt64 (0 : Int64) ((s 10 22).toInt64) s).bind fun v1 =>
  if v1 = 0 then
    some ((-1), s)
  else
    (some (up s 10 22 x1)).bind fun s1 =>
    some (s 10 22, s1)
set_option maxRecDepth 100000 in
theorem ok_M_forget {x1 : Int32} {s : sg} {rv : (Int32 × sg)} (hf : M_forget x1 s = some rv) : mEnds [] 1 169 (0, [some (.ref 10), some (.int x1), none], [], hp shM s, 0, 0) (some (.int rv.1), hp shM rv.2, 0, 0) := by
  unfold M_forget at hf
  refine mEnds.stp 4 (pc' := 4) (l' := [some (.ref 10), some (.int x1), none]) (st' := [.ref 10, .long (0 : Int64), .long x1.toInt64]) (fun _ => rfl) ?_
  refine t_gi (rfl : mfetch 169 4 = some (4, .getfield 142, 3, 5, 22, 0)) rfl rfl ?_
  refine mEnds.stp 1 (pc' := 8) (l' := [some (.ref 10), some (.int x1), none]) (st' := [.long ((s 10 22).toInt64), .long (0 : Int64), .long x1.toInt64]) (fun _ => rfl) ?_
  obtain ⟨v1, hv1, hf⟩ := ob hf
  refine t_cs (as := [.long x1.toInt64, .long (0 : Int64), .long ((s 10 22).toInt64)]) (st := []) (Or.inl rfl) (rfl : mfetch 169 8 = some (8, .invokestatic 49, 3, 111, 0, 0)) rfl rfl rfl (ok_M_in hv1) ?_
  by_cases hc1 : v1 = 0
  · rw [if_pos hc1] at hf
    refine t_jF (rfl : mfetch 169 11 = some (11, .ifCond .ne 5, 3, 0, 0, 0)) (k_ne' hc1) ?_
    refine mEnds.stp 1 (pc' := 15) (l' := [some (.ref 10), some (.int x1), none]) (st' := [.int (-1)]) (fun _ => rfl) ?_
    exact mEnds.rti (Option.some.inj hf) (fun _ => rfl)
  · rw [if_neg hc1] at hf
    refine t_jT (t := 16) (rfl : mfetch 169 11 = some (11, .ifCond .ne 5, 3, 0, 0, 0)) rfl (k_ne hc1) ?_
    refine mEnds.stp 1 (pc' := 17) (l' := [some (.ref 10), some (.int x1), none]) (st' := [.ref 10]) (fun _ => rfl) ?_
    refine t_gi (rfl : mfetch 169 17 = some (17, .getfield 142, 3, 5, 22, 0)) rfl rfl ?_
    refine mEnds.stp 3 (pc' := 23) (l' := [some (.ref 10), some (.int x1), some (.int (s 10 22))]) (st' := [.int x1, .ref 10]) (fun _ => rfl) ?_
    obtain ⟨s1, hs1, hf⟩ := ob hf
    refine t_pi (rfl : mfetch 169 23 = some (23, .putfield 142, 3, 5, 22, 0)) rfl rfl rfl rfl hs1 ?_
    refine mEnds.stp 1 (pc' := 27) (l' := [some (.ref 10), some (.int x1), some (.int (s 10 22))]) (st' := [.int (s 10 22)]) (fun _ => rfl) ?_
    exact mEnds.rti (Option.some.inj hf) (fun _ => rfl)
def M_isAsSeen_127 (k12 : Int32 → Int32 → sg → Option (Int32 × sg)) (k67 : Int32 → Int32 → sg → Option (Int32 × sg)) (x1 : Int32) (x3 : Int32) (x4 : Int32) (s : sg) : Option (Int32 × sg) :=
  k67 (nI 1) (x4 + (nI 1)) s
set_option maxRecDepth 100000 in
theorem ok_M_isAsSeen_127 {k12 : Int32 → Int32 → sg → Option (Int32 × sg)} {k67 : Int32 → Int32 → sg → Option (Int32 × sg)} {x1 : Int32} {x3 : Int32} {x4 : Int32} {s : sg} {rv : (Int32 × sg)} (hk12 : ∀ (x2 : Int32) (x3 : Int32) (s : sg) (rv : (Int32 × sg)), k12 x2 x3 s = some rv → mEnds [] 4 170 (12, [some (.ref 10), some (.int x1), some (.int x2), some (.int x3), none], [], hp shM s, 0, 0) (some (.int rv.1), hp shM rv.2, 0, 0)) (hk67 : ∀ (x2 : Int32) (x4 : Int32) (s : sg) (rv : (Int32 × sg)), k67 x2 x4 s = some rv → mEnds [] 4 170 (67, [some (.ref 10), some (.int x1), some (.int x2), some (.int x3), some (.int x4)], [], hp shM s, 0, 0) (some (.int rv.1), hp shM rv.2, 0, 0)) (hf : M_isAsSeen_127 k12 k67 x1 x3 x4 s = some rv) : mEnds [] 4 170 (127, [some (.ref 10), some (.int x1), none, some (.int x3), some (.int x4)], [], hp shM s, 0, 0) (some (.int rv.1), hp shM rv.2, 0, 0) := by
  unfold M_isAsSeen_127 at hf
  refine mEnds.stp 5 (pc' := 67) (l' := [some (.ref 10), some (.int x1), some (.int (nI 1)), some (.int x3), some (.int (x4 + (nI 1)))]) (st' := []) (fun _ => rfl) ?_
  refine mEnds.cut (l := [some (.ref 10), some (.int x1), some (.int (nI 1)), some (.int x3), some (.int (x4 + (nI 1)))]) ⟨rfl, ⟨rfl, ⟨rfl, ⟨rfl, ⟨rfl, trivial⟩⟩⟩⟩⟩ ?_
  exact hk67 (nI 1) (x4 + (nI 1)) s _ hf
def M_isAsSeen_67 (k12 : Int32 → Int32 → sg → Option (Int32 × sg)) (x1 : Int32) (x3 : Int32) : Nat → Int32 → Int32 → sg → Option (Int32 × sg)
  | 0, _, _, _ => none
  | fu + 1, x2, x4, s =>
  if x4 < s 10 22 then
    if x2 = 0 then
      M_isAsSeen_67 k12 x1 x3 fu (nI 0) (x4 + (nI 1)) s
    else
      (midx ((nI 3) * x4) 18).bind fun j1 =>
      if s 17 j1 = x3 then
        (midx (((nI 3) * x4) + (nI 1)) 18).bind fun j2 =>
        (midx ((nI 208) + (s 17 j2)) 312).bind fun j3 =>
        (midx (((nI 3) * x4) + (nI 2)) 18).bind fun j4 =>
        if s 11 j3 = s 17 j4 then
          M_isAsSeen_127 k12 (M_isAsSeen_67 k12 x1 x3 fu) x1 x3 x4 s
        else
          M_isAsSeen_67 k12 x1 x3 fu (nI 0) (x4 + (nI 1)) s
      else
        M_isAsSeen_127 k12 (M_isAsSeen_67 k12 x1 x3 fu) x1 x3 x4 s
  else
    (M_goesOn (nI 208) s).bind fun s1 =>
    k12 x2 (x3 + (nI 1)) s1
set_option maxRecDepth 100000 in
theorem ok_M_isAsSeen_67 {k12 : Int32 → Int32 → sg → Option (Int32 × sg)} {x1 : Int32} {x3 : Int32} (hk12 : ∀ (x2 : Int32) (x3 : Int32) (s : sg) (rv : (Int32 × sg)), k12 x2 x3 s = some rv → mEnds [] 4 170 (12, [some (.ref 10), some (.int x1), some (.int x2), some (.int x3), none], [], hp shM s, 0, 0) (some (.int rv.1), hp shM rv.2, 0, 0)) : ∀ (fu : Nat) (x2 : Int32) (x4 : Int32) (s : sg) (rv : (Int32 × sg)), M_isAsSeen_67 k12 x1 x3 fu x2 x4 s = some rv → mEnds [] 4 170 (67, [some (.ref 10), some (.int x1), some (.int x2), some (.int x3), some (.int x4)], [], hp shM s, 0, 0) (some (.int rv.1), hp shM rv.2, 0, 0)
  | 0, _, _, _, _, hf => by cases hf
  | fu + 1, x2, x4, s, rv, hf => by
    rw [M_isAsSeen_67] at hf
    refine mEnds.stp 2 (pc' := 70) (l' := [some (.ref 10), some (.int x1), some (.int x2), some (.int x3), some (.int x4)]) (st' := [.ref 10, .int x4]) (fun _ => rfl) ?_
    refine t_gi (rfl : mfetch 170 70 = some (70, .getfield 142, 3, 5, 22, 0)) rfl rfl ?_
    by_cases hc1 : x4 < s 10 22
    · rw [if_pos hc1] at hf
      refine t_cF (rfl : mfetch 170 73 = some (73, .if_icmp .ge 66, 3, 0, 0, 0)) (k_ge' hc1) ?_
      refine mEnds.stp 1 (pc' := 77) (l' := [some (.ref 10), some (.int x1), some (.int x2), some (.int x3), some (.int x4)]) (st' := [.int x2]) (fun _ => rfl) ?_
      by_cases hc2 : x2 = 0
      · rw [if_pos hc2] at hf
        refine t_jT (t := 131) (rfl : mfetch 170 77 = some (77, .ifCond .eq 54, 3, 0, 0, 0)) rfl (k_eq hc2) ?_
        refine mEnds.stp 4 (pc' := 67) (l' := [some (.ref 10), some (.int x1), some (.int (nI 0)), some (.int x3), some (.int (x4 + (nI 1)))]) (st' := []) (fun _ => rfl) ?_
        refine mEnds.cut (l := [some (.ref 10), some (.int x1), some (.int (nI 0)), some (.int x3), some (.int (x4 + (nI 1)))]) ⟨rfl, ⟨rfl, ⟨rfl, ⟨rfl, ⟨rfl, trivial⟩⟩⟩⟩⟩ ?_
        exact ok_M_isAsSeen_67 hk12 fu (nI 0) (x4 + (nI 1)) s _ hf
      · rw [if_neg hc2] at hf
        refine t_jF (rfl : mfetch 170 77 = some (77, .ifCond .eq 54, 3, 0, 0, 0)) (k_eq' hc2) ?_
        refine mEnds.stp 1 (pc' := 81) (l' := [some (.ref 10), some (.int x1), some (.int x2), some (.int x3), some (.int x4)]) (st' := [.ref 10]) (fun _ => rfl) ?_
        refine t_gr (rfl : mfetch 170 81 = some (81, .getfield 28, 3, 5, 21, 0)) rfl rfl ?_
        refine mEnds.stp 3 (pc' := 88) (l' := [some (.ref 10), some (.int x1), some (.int x2), some (.int x3), some (.int x4)]) (st' := [.int ((nI 3) * x4), .ref 17]) (fun _ => rfl) ?_
        obtain ⟨j1, hj1, hf⟩ := ob hf
        refine t_ia (rfl : mfetch 170 88 = some (88, .iaload, 1, 0, 0, 0)) rfl rfl hj1 ?_
        refine mEnds.stp 1 (pc' := 90) (l' := [some (.ref 10), some (.int x1), some (.int x2), some (.int x3), some (.int x4)]) (st' := [.int x3, .int (s 17 j1)]) (fun _ => rfl) ?_
        by_cases hc3 : s 17 j1 = x3
        · rw [if_pos hc3] at hf
          refine t_cF (rfl : mfetch 170 90 = some (90, .if_icmp .ne 37, 3, 0, 0, 0)) (k_ne' hc3) ?_
          refine mEnds.stp 1 (pc' := 94) (l' := [some (.ref 10), some (.int x1), some (.int x2), some (.int x3), some (.int x4)]) (st' := [.ref 10]) (fun _ => rfl) ?_
          refine t_gr (rfl : mfetch 170 94 = some (94, .getfield 7, 3, 5, 0, 0)) rfl rfl ?_
          refine mEnds.stp 2 (pc' := 101) (l' := [some (.ref 10), some (.int x1), some (.int x2), some (.int x3), some (.int x4)]) (st' := [.ref 10, .int (nI 208), .ref 11]) (fun _ => rfl) ?_
          refine t_gr (rfl : mfetch 170 101 = some (101, .getfield 28, 3, 5, 21, 0)) rfl rfl ?_
          refine mEnds.stp 5 (pc' := 110) (l' := [some (.ref 10), some (.int x1), some (.int x2), some (.int x3), some (.int x4)]) (st' := [.int (((nI 3) * x4) + (nI 1)), .ref 17, .int (nI 208), .ref 11]) (fun _ => rfl) ?_
          obtain ⟨j2, hj2, hf⟩ := ob hf
          refine t_ia (rfl : mfetch 170 110 = some (110, .iaload, 1, 0, 0, 0)) rfl rfl hj2 ?_
          refine mEnds.stp 1 (pc' := 112) (l' := [some (.ref 10), some (.int x1), some (.int x2), some (.int x3), some (.int x4)]) (st' := [.int ((nI 208) + (s 17 j2)), .ref 11]) (fun _ => rfl) ?_
          obtain ⟨j3, hj3, hf⟩ := ob hf
          refine t_ia (rfl : mfetch 170 112 = some (112, .iaload, 1, 0, 0, 0)) rfl rfl hj3 ?_
          refine mEnds.stp 1 (pc' := 114) (l' := [some (.ref 10), some (.int x1), some (.int x2), some (.int x3), some (.int x4)]) (st' := [.ref 10, .int (s 11 j3)]) (fun _ => rfl) ?_
          refine t_gr (rfl : mfetch 170 114 = some (114, .getfield 28, 3, 5, 21, 0)) rfl rfl ?_
          refine mEnds.stp 5 (pc' := 123) (l' := [some (.ref 10), some (.int x1), some (.int x2), some (.int x3), some (.int x4)]) (st' := [.int (((nI 3) * x4) + (nI 2)), .ref 17, .int (s 11 j3)]) (fun _ => rfl) ?_
          obtain ⟨j4, hj4, hf⟩ := ob hf
          refine t_ia (rfl : mfetch 170 123 = some (123, .iaload, 1, 0, 0, 0)) rfl rfl hj4 ?_
          by_cases hc4 : s 11 j3 = s 17 j4
          · rw [if_pos hc4] at hf
            refine t_cF (rfl : mfetch 170 124 = some (124, .if_icmp .ne 7, 3, 0, 0, 0)) (k_ne' hc4) ?_
            refine mEnds.cut (l := [some (.ref 10), some (.int x1), none, some (.int x3), some (.int x4)]) ⟨rfl, ⟨rfl, ⟨rfl, ⟨rfl, trivial⟩⟩⟩⟩ ?_
            exact ok_M_isAsSeen_127 hk12 (ok_M_isAsSeen_67 hk12 fu) hf
          · rw [if_neg hc4] at hf
            refine t_cT (t := 131) (rfl : mfetch 170 124 = some (124, .if_icmp .ne 7, 3, 0, 0, 0)) rfl (k_ne hc4) ?_
            refine mEnds.stp 4 (pc' := 67) (l' := [some (.ref 10), some (.int x1), some (.int (nI 0)), some (.int x3), some (.int (x4 + (nI 1)))]) (st' := []) (fun _ => rfl) ?_
            refine mEnds.cut (l := [some (.ref 10), some (.int x1), some (.int (nI 0)), some (.int x3), some (.int (x4 + (nI 1)))]) ⟨rfl, ⟨rfl, ⟨rfl, ⟨rfl, ⟨rfl, trivial⟩⟩⟩⟩⟩ ?_
            exact ok_M_isAsSeen_67 hk12 fu (nI 0) (x4 + (nI 1)) s _ hf
        · rw [if_neg hc3] at hf
          refine t_cT (t := 127) (rfl : mfetch 170 90 = some (90, .if_icmp .ne 37, 3, 0, 0, 0)) rfl (k_ne hc3) ?_
          refine mEnds.cut (l := [some (.ref 10), some (.int x1), none, some (.int x3), some (.int x4)]) ⟨rfl, ⟨rfl, ⟨rfl, ⟨rfl, trivial⟩⟩⟩⟩ ?_
          exact ok_M_isAsSeen_127 hk12 (ok_M_isAsSeen_67 hk12 fu) hf
    · rw [if_neg hc1] at hf
      refine t_cT (t := 139) (rfl : mfetch 170 73 = some (73, .if_icmp .ge 66, 3, 0, 0, 0)) rfl (k_ge hc1) ?_
      refine mEnds.stp 2 (pc' := 143) (l' := [some (.ref 10), some (.int x1), some (.int x2), some (.int x3), some (.int x4)]) (st' := [.int (nI 208), .ref 10]) (fun _ => rfl) ?_
      obtain ⟨s1, hs1, hf⟩ := ob hf
      refine t_cv (as := [.int (nI 208)]) (st := []) (rfl : mfetch 170 143 = some (143, .invokevirtual 198, 3, 134, 0, 0)) rfl rfl rfl rfl rfl (ok_M_goesOn hs1) ?_
      refine mEnds.stp 2 (pc' := 12) (l' := [some (.ref 10), some (.int x1), some (.int x2), some (.int (x3 + (nI 1))), some (.int x4)]) (st' := []) (fun _ => rfl) ?_
      refine mEnds.cut (l := [some (.ref 10), some (.int x1), some (.int x2), some (.int (x3 + (nI 1))), none]) ⟨rfl, ⟨rfl, ⟨rfl, ⟨rfl, trivial⟩⟩⟩⟩ ?_
      exact hk12 x2 (x3 + (nI 1)) s1 _ hf
def M_isAsSeen_21 (k12 : Int32 → Int32 → sg → Option (Int32 × sg)) (x1 : Int32) (x2 : Int32) (x3 : Int32) : Nat → Int32 → sg → Option (Int32 × sg)
  | 0, _, _ => none
  | fu + 1, x4, s =>
  if x4 < s 10 1 then
    (midx ((nI 208) + x4) 312).bind fun j1 =>
    (midx ((((nI 126) * x1) + ((nI 6) * x3)) + x4) 1260).bind fun j2 =>
    (some (up s 18 j2 (s 11 j1))).bind fun s1 =>
    M_isAsSeen_21 k12 x1 x2 x3 fu (x4 + (nI 1)) s1
  else
    M_isAsSeen_67 k12 x1 x3 FU x2 (nI 0) s
set_option maxRecDepth 100000 in
theorem ok_M_isAsSeen_21 {k12 : Int32 → Int32 → sg → Option (Int32 × sg)} {x1 : Int32} {x2 : Int32} {x3 : Int32} (hk12 : ∀ (x2 : Int32) (x3 : Int32) (s : sg) (rv : (Int32 × sg)), k12 x2 x3 s = some rv → mEnds [] 4 170 (12, [some (.ref 10), some (.int x1), some (.int x2), some (.int x3), none], [], hp shM s, 0, 0) (some (.int rv.1), hp shM rv.2, 0, 0)) : ∀ (fu : Nat) (x4 : Int32) (s : sg) (rv : (Int32 × sg)), M_isAsSeen_21 k12 x1 x2 x3 fu x4 s = some rv → mEnds [] 4 170 (21, [some (.ref 10), some (.int x1), some (.int x2), some (.int x3), some (.int x4)], [], hp shM s, 0, 0) (some (.int rv.1), hp shM rv.2, 0, 0)
  | 0, _, _, _, hf => by cases hf
  | fu + 1, x4, s, rv, hf => by
    rw [M_isAsSeen_21] at hf
    refine mEnds.stp 2 (pc' := 24) (l' := [some (.ref 10), some (.int x1), some (.int x2), some (.int x3), some (.int x4)]) (st' := [.ref 10, .int x4]) (fun _ => rfl) ?_
    refine t_gi (rfl : mfetch 170 24 = some (24, .getfield 139, 3, 5, 1, 0)) rfl rfl ?_
    by_cases hc1 : x4 < s 10 1
    · rw [if_pos hc1] at hf
      refine t_cF (rfl : mfetch 170 27 = some (27, .if_icmp .ge 37, 3, 0, 0, 0)) (k_ge' hc1) ?_
      refine mEnds.stp 1 (pc' := 31) (l' := [some (.ref 10), some (.int x1), some (.int x2), some (.int x3), some (.int x4)]) (st' := [.ref 10]) (fun _ => rfl) ?_
      refine t_gr (rfl : mfetch 170 31 = some (31, .getfield 31, 3, 5, 23, 0)) rfl rfl ?_
      refine mEnds.stp 10 (pc' := 47) (l' := [some (.ref 10), some (.int x1), some (.int x2), some (.int x3), some (.int x4)]) (st' := [.ref 10, .int ((((nI 126) * x1) + ((nI 6) * x3)) + x4), .ref 18]) (fun _ => rfl) ?_
      refine t_gr (rfl : mfetch 170 47 = some (47, .getfield 7, 3, 5, 0, 0)) rfl rfl ?_
      refine mEnds.stp 3 (pc' := 56) (l' := [some (.ref 10), some (.int x1), some (.int x2), some (.int x3), some (.int x4)]) (st' := [.int ((nI 208) + x4), .ref 11, .int ((((nI 126) * x1) + ((nI 6) * x3)) + x4), .ref 18]) (fun _ => rfl) ?_
      obtain ⟨j1, hj1, hf⟩ := ob hf
      refine t_ia (rfl : mfetch 170 56 = some (56, .iaload, 1, 0, 0, 0)) rfl rfl hj1 ?_
      obtain ⟨j2, hj2, hf⟩ := ob hf
      obtain ⟨s1, hs1, hf⟩ := ob hf
      refine t_is (rfl : mfetch 170 57 = some (57, .iastore, 1, 0, 0, 0)) rfl rfl hj2 hs1 ?_
      refine mEnds.stp 2 (pc' := 21) (l' := [some (.ref 10), some (.int x1), some (.int x2), some (.int x3), some (.int (x4 + (nI 1)))]) (st' := []) (fun _ => rfl) ?_
      refine mEnds.cut (l := [some (.ref 10), some (.int x1), some (.int x2), some (.int x3), some (.int (x4 + (nI 1)))]) ⟨rfl, ⟨rfl, ⟨rfl, ⟨rfl, ⟨rfl, trivial⟩⟩⟩⟩⟩ ?_
      exact ok_M_isAsSeen_21 hk12 fu (x4 + (nI 1)) s1 _ hf
    · rw [if_neg hc1] at hf
      refine t_cT (t := 64) (rfl : mfetch 170 27 = some (27, .if_icmp .ge 37, 3, 0, 0, 0)) rfl (k_ge hc1) ?_
      refine mEnds.stp 2 (pc' := 67) (l' := [some (.ref 10), some (.int x1), some (.int x2), some (.int x3), some (.int (nI 0))]) (st' := []) (fun _ => rfl) ?_
      refine mEnds.cut (l := [some (.ref 10), some (.int x1), some (.int x2), some (.int x3), some (.int (nI 0))]) ⟨rfl, ⟨rfl, ⟨rfl, ⟨rfl, ⟨rfl, trivial⟩⟩⟩⟩⟩ ?_
      exact ok_M_isAsSeen_67 hk12 FU x2 (nI 0) s _ hf
def M_isAsSeen_12 (x1 : Int32) : Nat → Int32 → Int32 → sg → Option (Int32 × sg)
  | 0, _, _, _ => none
  | fu + 1, x2, x3, s =>
  if nI 20 < x3 then
    if x2 = 0 ∨ x2 = 1 then some (x2, s) else none
  else
    M_isAsSeen_21 (M_isAsSeen_12 x1 fu) x1 x2 x3 FU (nI 0) s
set_option maxRecDepth 100000 in
theorem ok_M_isAsSeen_12 {x1 : Int32} : ∀ (fu : Nat) (x2 : Int32) (x3 : Int32) (s : sg) (rv : (Int32 × sg)), M_isAsSeen_12 x1 fu x2 x3 s = some rv → mEnds [] 4 170 (12, [some (.ref 10), some (.int x1), some (.int x2), some (.int x3), none], [], hp shM s, 0, 0) (some (.int rv.1), hp shM rv.2, 0, 0)
  | 0, _, _, _, _, hf => by cases hf
  | fu + 1, x2, x3, s, rv, hf => by
    rw [M_isAsSeen_12] at hf
    refine mEnds.stp 2 (pc' := 15) (l' := [some (.ref 10), some (.int x1), some (.int x2), some (.int x3), none]) (st' := [.int (nI 20), .int x3]) (fun _ => rfl) ?_
    by_cases hc1 : nI 20 < x3
    · rw [if_pos hc1] at hf
      refine t_cT (t := 152) (rfl : mfetch 170 15 = some (15, .if_icmp .gt 137, 3, 0, 0, 0)) rfl (k_gt hc1) ?_
      refine mEnds.stp 1 (pc' := 153) (l' := [some (.ref 10), some (.int x1), some (.int x2), some (.int x3), none]) (st' := [.int x2]) (fun _ => rfl) ?_
      by_cases hc2 : x2 = 0 ∨ x2 = 1
      · rw [if_pos hc2] at hf; cases Option.some.inj hf; exact t_zr (rfl : mfetch 170 153 = some (153, .ireturn, 1, 0, 0, 0)) rfl hc2
      · rw [if_neg hc2] at hf; cases hf
    · rw [if_neg hc1] at hf
      refine t_cF (rfl : mfetch 170 15 = some (15, .if_icmp .gt 137, 3, 0, 0, 0)) (k_gt' hc1) ?_
      refine mEnds.stp 2 (pc' := 21) (l' := [some (.ref 10), some (.int x1), some (.int x2), some (.int x3), some (.int (nI 0))]) (st' := []) (fun _ => rfl) ?_
      refine mEnds.cut (l := [some (.ref 10), some (.int x1), some (.int x2), some (.int x3), some (.int (nI 0))]) ⟨rfl, ⟨rfl, ⟨rfl, ⟨rfl, ⟨rfl, trivial⟩⟩⟩⟩⟩ ?_
      exact ok_M_isAsSeen_21 (ok_M_isAsSeen_12 fu) FU (nI 0) s _ hf
def M_isAsSeen (x1 : Int32) (s : sg) : Option (Int32 × sg) :=
  (M_copies (nI 0) (nI 208) s).bind fun s1 =>
  M_isAsSeen_12 x1 FU (nI 1) (nI 0) s1
set_option maxRecDepth 100000 in
theorem ok_M_isAsSeen {x1 : Int32} {s : sg} {rv : (Int32 × sg)} (hf : M_isAsSeen x1 s = some rv) : mEnds [] 4 170 (0, [some (.ref 10), some (.int x1), none, none, none], [], hp shM s, 0, 0) (some (.int rv.1), hp shM rv.2, 0, 0) := by
  unfold M_isAsSeen at hf
  refine mEnds.stp 3 (pc' := 5) (l' := [some (.ref 10), some (.int x1), none, none, none]) (st' := [.int (nI 208), .int (nI 0), .ref 10]) (fun _ => rfl) ?_
  obtain ⟨s1, hs1, hf⟩ := ob hf
  refine t_cv (as := [.int (nI 0), .int (nI 208)]) (st := []) (rfl : mfetch 170 5 = some (5, .invokevirtual 201, 3, 152, 0, 0)) rfl rfl rfl rfl rfl ((ok_M_copies hs1).deep 3) ?_
  refine mEnds.stp 4 (pc' := 12) (l' := [some (.ref 10), some (.int x1), some (.int (nI 1)), some (.int (nI 0)), none]) (st' := []) (fun _ => rfl) ?_
  refine mEnds.cut (l := [some (.ref 10), some (.int x1), some (.int (nI 1)), some (.int (nI 0)), none]) ⟨rfl, ⟨rfl, ⟨rfl, ⟨rfl, trivial⟩⟩⟩⟩ ?_
  exact ok_M_isAsSeen_12 FU (nI 1) (nI 0) s1 _ hf
