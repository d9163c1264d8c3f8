/-! lines, told to both -/
def PL (b : Nat → Int32) (L : Nat) (s0 s t s' t' : sg) : Prop := BS b L s0 s' t' ∧ XC b L s' t' ∧ s' 27 5 = s 27 5 ∧ FM t t' ∧ (t' 10 10 = nI 0 → ∃ R, DR s' t' R) ∧ offLn t t'
section LINE
variable {s t s' t' s0 : sg} {b : Nat → Int32} {L R : Nat} {x x1 x2 x3 v v1 v2 v3 : Int32}
theorem XC.k (X : XC b L s t) (h3 : s' 27 3 = s 27 3) (h4 : s' 27 4 = s 27 4) (h8 : s' 27 8 = s 27 8) (ht : ∀ k, 10 ≤ k → k ≤ 15 → t' 10 k = t 10 k) : XC b L s' t' := by
  unfold XC CR
  rw [h3, h4, h8, ht 10 (by decide) (by decide), ht 11 (by decide) (by decide), ht 12 (by decide) (by decide), ht 13 (by decide) (by decide), ht 14 (by decide) (by decide), ht 15 (by decide) (by decide)]
  exact X
theorem XC.us {q k : Nat} (X : XC b L s t) (h : q ≠ 27 ∨ (k ≠ 3 ∧ k ≠ 4 ∧ k ≠ 8)) : XC b L (up s q k v) t :=
  X.k (if_neg (by omega)) (if_neg (by omega)) (if_neg (by omega)) (fun _ _ _ => rfl)
theorem XC.ut {q k : Nat} (X : XC b L s t) (h : q ≠ 10 ∨ k < 10) : XC b L s (up t q k v) :=
  X.k rfl rfl rfl (fun i h1 h2 => if_neg (by omega))
theorem XA.us {q k : Nat} (X : XA b L s t) (h : q ≠ 27 ∨ k = 5 ∨ 9 ≤ k) : XA b L (up s q k v) t := by
  have e : ∀ i, i ≠ 5 → i < 9 → (up s q k v) 27 i = s 27 i := fun i h1 h2 => if_neg (by omega)
  unfold XA
  rw [e 3 (by decide) (by decide), e 4 (by decide) (by decide), e 6 (by decide) (by decide), e 7 (by decide) (by decide), e 8 (by decide) (by decide)]
  exact X
theorem XA.ut {q k : Nat} (X : XA b L s t) (h : q ≠ 10 ∨ k < 10) : XA b L s (up t q k v) := by
  have e : ∀ i, 10 ≤ i → (up t q k v) 10 i = t 10 i := fun i h1 => if_neg (by omega)
  unfold XA CR
  rw [e 10 (by decide), e 11 (by decide), e 12 (by decide), e 13 (by decide), e 14 (by decide), e 15 (by decide)]
  exact X
theorem BS.u3 {q k : Nat} (B : BS b L s0 s t) (hq : 30 ≤ q ∧ q ≤ 36 ∧ q ≠ 33) : BS b L s0 (up s q k v) t := ⟨B.1.u30 hq, fun i hi => (up_p (by omega)).trans (B.2.1 i hi), B.2.2⟩
theorem BS.u33 {k : Nat} (B : BS b L s0 s t) (hv : tg v) : BS b L s0 (up s 33 k v) t := ⟨B.1.u33 hv, fun i hi => (up_p (by omega)).trans (B.2.1 i hi), B.2.2⟩
theorem BS.u27 {k : Nat} (B : BS b L s0 s t) (hk : k ≠ 1 ∧ k ≠ 6 ∧ k ≠ 7 ∧ k ≠ 8) : BS b L s0 (up s 27 k v) t := ⟨B.1.u27 hk, fun i hi => (up_p (by omega)).trans (B.2.1 i hi), B.2.2⟩
theorem BS.u29 (B : BS b L s0 s t) (hR : R ≤ 6) : BS b L s0 (up s 29 0 (nI R)) t := by
  obtain ⟨⟨⟨e1, hL, ⟨R', H⟩, C⟩, o⟩, tp, X, T⟩ := B
  refine ⟨⟨⟨(up_p (by decide)).trans e1, hL, ⟨R, up_eq, hR, (up_k (by decide)).trans H.2.2.1, fun r hr => ?_⟩, C.out (by decide)⟩, fun p hp => ?_⟩, fun i hi => (up_p (by decide)).trans (tp i hi), X, T⟩
  · rw [up_p (by omega)]; exact H.2.2.2 r hr
  · rw [up_off (by omega)]; exact o p hp
theorem BS.t12 {k : Nat} (B : BS b L s0 s t) (hk : k ≠ 49) : BS b L s0 s (up t 12 k v) := by
  obtain ⟨q, bb, rr, T⟩ := B.2.2.1
  exact ⟨B.1, B.2.1, ⟨q, bb, rr, T.ur hk⟩, fun i hi => by rw [up_p (by decide)]; exact B.2.2.2 i hi⟩
theorem BS.t10 {k : Nat} (B : BS b L s0 s t) (hk : 4 ≤ k ∧ k ≤ 6) : BS b L s0 s (up t 10 k v) := by
  obtain ⟨q, bb, rr, T⟩ := B.2.2.1
  exact ⟨B.1, B.2.1, ⟨q, bb, rr, T.u (by omega)⟩, fun i hi => by rw [up_p (by decide)]; exact B.2.2.2 i hi⟩
theorem BS.t3 (B : BS b L s0 s t) (hk : R ≤ 6) : BS b L s0 s (up t 10 3 (nI R)) := by
  obtain ⟨q, bb, rr, T⟩ := B.2.2.1
  exact ⟨B.1, B.2.1, ⟨q, bb, R, T.u3 hk⟩, fun i hi => by rw [up_p (by decide)]; exact B.2.2.2 i hi⟩
theorem FM.u {q k : Nat} (h : q ≠ 10 ∨ k < 10) : FM t (up t q k v) := fun _ => ⟨if_neg (by omega), if_neg (by omega)⟩
theorem PN.live {M : Nat} {a c : Int32 × sg} (P : PN b L s0 M s t a c) (h : c.2 10 10 = nI 0) : t 10 10 = nI 0 ∧ a.1 = c.1 ∧ a.2 27 3 = 0 := by
  rcases P.2.2.2.2.2.2.2 with ⟨z1, z2, _, z4, _⟩ | ⟨_, z2, _⟩
  · exact ⟨z2, z4, z1⟩
  · exact absurd h z2
theorem obs {α : Type} (o : Option α) : (o.bind fun x => some x) = o := by cases o <;> rfl
theorem K_room (B : BS b L s0 s t) (X : XC b L s t) (hR : s 29 0 = nI R) (hR6 : R < 6) (e3 : t 10 3 = nI R) (D : t 10 10 = nI 0 → DR s t R) : w2 (T_tellRoom s) ((M_readMore (nI 4) t).bind refFin) (PL b L s0 s t) := by
  unfold T_tellRoom M_readMore
  rw [hR, if_pos ((nI_ltI (by omega) (by decide)).mpr hR6), if_pos (show nI 3 < nI 4 by decide), if_pos rfl, nI_add]
  refine w2sl ?_
  rw [Option.bind_assoc]
  refine w2b (K_num (M := 99) (by decide) (B.u29 (R := R + 1) (by omega)) (X.us (by omega))) (fun a c P1 => ?_)
  rw [Option.bind_assoc]
  refine w2l rfl (by omega) (by decide) (w2r e3 (by omega) (by decide) (w2sl ?_))
  rw [Option.bind_assoc]
  refine w2sr ?_
  rw [Option.bind_assoc]
  have B2 : BS b L s0 (up a.2 30 R a.1) (up c.2 12 R c.1) := (P1.2.2.1.u3 (by decide)).t12 (by omega)
  have X2 : XC b L (up a.2 30 R a.1) (up c.2 12 R c.1) := (P1.2.2.2.1.us (by omega)).ut (by omega)
  refine w2b (K_num (M := 9) (by decide) B2 X2) (fun a2 c2 P2 => ?_)
  have e32 : (up c.2 12 R c.1) 10 3 = nI R := by rw [up_p (by decide), P1.2.1 10 3 (by omega)]; exact e3
  rw [Option.bind_assoc, e32, nI_add]
  refine w2l rfl (by omega) (by decide) (w2r rfl (by omega) (by decide) (w2sl ?_))
  rw [Option.bind_assoc]
  refine w2sr ?_
  rw [Option.bind_assoc]
  have B3 : BS b L s0 (up a2.2 31 R a2.1) (up c2.2 12 (6 + R) c2.1) := (P2.2.2.1.u3 (by decide)).t12 (by omega)
  have X3 : XC b L (up a2.2 31 R a2.1) (up c2.2 12 (6 + R) c2.1) := (P2.2.2.2.1.us (by omega)).ut (by omega)
  refine w2b (K_num (M := 9) (by decide) B3 X3) (fun a3 c3 P3 => ?_)
  have e33 : (up c2.2 12 (6 + R) c2.1) 10 3 = nI R := by rw [up_p (by decide), P2.2.1 10 3 (by omega)]; exact e32
  rw [Option.bind_assoc, e33, nI_add]
  refine w2l rfl (by omega) (by decide) (w2r rfl (by omega) (by decide) (w2sl ?_))
  rw [Option.bind_assoc]
  refine w2sr ?_
  rw [Option.bind_assoc]
  have e34 : (up c3.2 12 (12 + R) c3.1) 10 3 = nI R := by rw [up_p (by decide), P3.2.1 10 3 (by omega)]; exact e33
  refine w2sr ?_
  rw [e34, nI_add, obs]
  have B4 : BS b L s0 (up a3.2 32 R a3.1) (up (up c3.2 12 (12 + R) c3.1) 10 3 (nI (R + 1))) := ((P3.2.2.1.u3 (by decide)).t12 (by omega)).t3 (by omega)
  have X4 : XC b L (up a3.2 32 R a3.1) (up (up c3.2 12 (12 + R) c3.1) 10 3 (nI (R + 1))) := ((P3.2.2.2.1.us (by omega)).ut (by omega)).ut (by omega)
  refine w2sr ((K_fin B4 X4).c (fun s5 t5 F => ?_))
  have K : keepC (up (up (up (up s 29 0 (nI (R + 1))) 30 R a.1) 31 R a2.1) 32 R a3.1) s5 := (((P1.1.lift.tr P2.1).lift).tr P3.1).lift.tr F.1
  have O : offK (up (up (up (up t 12 R c.1) 12 (6 + R) c2.1) 12 (12 + R) c3.1) 10 3 (nI (R + 1))) t5 := (((P1.2.1.lift.tr P2.2.1).lift).tr P3.2.1).lift.lift.tr F.2.1
  refine ⟨F.2.2.1, F.2.2.2.1, ?_, ?_, fun z => ⟨R + 1, ?_⟩, ?_⟩
  · rw [K 27 5 (by omega), up_p (by decide), up_p (by decide), up_p (by decide), up_p (by decide)]
  · exact P1.2.2.2.2.1.tr ((FM.u (by omega)).tr (P2.2.2.2.2.1.tr ((FM.u (by omega)).tr (P3.2.2.2.2.1.tr ((FM.u (by omega)).tr ((FM.u (by omega)).tr F.2.2.2.2.1))))))
  · have z3 := F.2.2.2.2.2 z
    rw [up_k (by decide), up_p (by decide)] at z3
    obtain ⟨y3, w3, _⟩ := P3.live z3
    rw [up_p (by decide)] at y3
    obtain ⟨y2, w2', _⟩ := P2.live y3
    rw [up_p (by decide)] at y2
    obtain ⟨y1, w1, _⟩ := P1.live y2
    have h := (D y1).room (v1 := a.1) (v2 := a2.1) (v3 := a3.1) hR6
    rw [← w1, ← w2', ← w3] at O
    exact h.k K O
  · exact P1.2.1.l.tr (offLn.ur.tr (P2.2.1.l.tr (offLn.ur.tr (P3.2.1.l.tr (offLn.ur.tr ((offLn.u (by decide)).tr F.2.1.l))))))
theorem K_26 {k k' kd : Nat} (hkd : kd ≤ 3) (hk : k ≤ 5) (hk' : k' ≤ 5) (B : BS b L s0 s t) (X : XC b L s t) (D : t 10 10 = nI 0 → k' = k ∧ DR s t R ∧ ¬ 0 < t 12 (18 + k)) : w2 (T_tellTongue_26 (nI kd) (nI k) s) ((M_readTongue_74 (nI kd) (nI k') (mxV (t 10 6) (nI k')) t).bind refFin) (PL b L s0 s t) := by
  unfold T_tellTongue_26 M_readTongue_74
  rw [nI_add, nI_add, nI_add]
  refine w2l rfl (by omega) (by decide) (w2sl ?_)
  rw [Option.bind_assoc]
  refine w2sr ?_
  rw [Option.bind_assoc]
  refine w2r rfl (by omega) (by decide) ?_
  rw [Option.bind_assoc]
  refine w2sr ?_
  rw [Option.bind_assoc]
  have B1 : BS b L s0 (up s 33 k (nI kd)) (up (up t 10 6 (mxV (t 10 6) (nI k'))) 12 (18 + k') (nI (kd + 1))) := ((B.u33 (Or.inr ⟨kd, by omega, rfl⟩)).t10 (by decide)).t12 (by omega)
  have X1 : XC b L (up s 33 k (nI kd)) (up (up t 10 6 (mxV (t 10 6) (nI k'))) 12 (18 + k') (nI (kd + 1))) := ((X.us (by omega)).ut (by omega)).ut (by omega)
  refine w2b (K_num (M := 99) (by decide) B1 X1) (fun a c P1 => ?_)
  rw [Option.bind_assoc]
  refine w2l rfl (by omega) (by decide) (w2r rfl (by omega) (by decide) (w2sl ?_))
  rw [Option.bind_assoc]
  refine w2sr ?_
  rw [obs]
  have B2 : BS b L s0 (up a.2 34 k a.1) (up c.2 12 (24 + k') c.1) := (P1.2.2.1.u3 (by decide)).t12 (by omega)
  have X2 : XC b L (up a.2 34 k a.1) (up c.2 12 (24 + k') c.1) := (P1.2.2.2.1.us (by omega)).ut (by omega)
  refine w2sr ((K_fin B2 X2).c (fun s5 t5 F => ?_))
  have K : keepC (up (up s 33 k (nI kd)) 34 k a.1) s5 := P1.1.lift.tr F.1
  have O : offK (up (up (up t 10 6 (mxV (t 10 6) (nI k'))) 12 (18 + k') (nI (kd + 1))) 12 (24 + k') c.1) t5 := P1.2.1.lift.tr F.2.1
  refine ⟨F.2.2.1, F.2.2.2.1, ?_, ?_, fun z => ⟨R, ?_⟩, ?_⟩
  · rw [K 27 5 (by omega), up_p (by decide), up_p (by decide)]
  · exact (FM.u (by omega)).tr ((FM.u (by omega)).tr (P1.2.2.2.2.1.tr ((FM.u (by omega)).tr F.2.2.2.2.1)))
  · have z3 := F.2.2.2.2.2 z
    rw [up_p (by decide)] at z3
    obtain ⟨y3, w3, _⟩ := P1.live z3
    rw [up_p (by decide), up_k (by decide)] at y3
    obtain ⟨ek, D0, hn⟩ := D y3
    subst ek
    obtain ⟨kc, hkc, ekc⟩ := P1.2.2.2.2.2.1
    rw [← w3, ekc] at O
    rw [ekc] at K
    have h := D0.tongue (w := k') (k := kd) (c := kc) (by omega) hkd hkc hn
    rw [nI_add] at h
    exact h.k K O
  · exact (offLn.u (by decide)).tr (offLn.ur.tr (P1.2.1.l.tr (offLn.ur.tr F.2.1.l)))
end LINE
