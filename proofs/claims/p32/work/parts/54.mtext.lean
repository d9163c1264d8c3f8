/-! the reference's text -/
def EN (t : sg) : Prop := ∃ E : Nat → Nat, (∀ j, j ≤ 7 → t 14 j = nI (E j)) ∧ ∀ j, j < 7 → E j ≤ E (j + 1) ∧ E (j + 1) ≤ 29
def TX (t : sg) (L p b rr : Nat) : Prop := t 10 8 = nI L ∧ L ≤ 160 ∧ t 10 12 = nI p ∧ p ≤ L ∧ t 10 10 = nI b ∧ b ≤ 6 ∧ t 10 3 = nI rr ∧ rr ≤ 6 ∧ t 12 49 = nI 0 ∧ EN t
theorem TX.l {t : sg} {L p b rr : Nat} (X : TX t L p b rr) : t 10 8 = nI L := X.1
theorem TX.l2 {t : sg} {L p b rr : Nat} (X : TX t L p b rr) : L ≤ 160 := X.2.1
theorem TX.p {t : sg} {L p b rr : Nat} (X : TX t L p b rr) : t 10 12 = nI p := X.2.2.1
theorem TX.p2 {t : sg} {L p b rr : Nat} (X : TX t L p b rr) : p ≤ L := X.2.2.2.1
theorem TX.b {t : sg} {L p b rr : Nat} (X : TX t L p b rr) : t 10 10 = nI b := X.2.2.2.2.1
theorem TX.b2 {t : sg} {L p b rr : Nat} (X : TX t L p b rr) : b ≤ 6 := X.2.2.2.2.2.1
theorem TX.r {t : sg} {L p b rr : Nat} (X : TX t L p b rr) : t 10 3 = nI rr := X.2.2.2.2.2.2.1
theorem TX.r2 {t : sg} {L p b rr : Nat} (X : TX t L p b rr) : rr ≤ 6 := X.2.2.2.2.2.2.2.1
theorem TX.h {t : sg} {L p b rr : Nat} (X : TX t L p b rr) : t 12 49 = nI 0 := X.2.2.2.2.2.2.2.2.1
theorem TX.e {t : sg} {L p b rr : Nat} (X : TX t L p b rr) : EN t := X.2.2.2.2.2.2.2.2.2
def FR (t : sg) (p : Nat) : Prop := ∃ f : Nat, f ≤ p ∧ t 10 13 = nI f
def offK (t t' : sg) : Prop := ∀ p k, ¬ (p = 10 ∧ 10 ≤ k ∧ k ≤ 15) → t' p k = t p k
theorem offK.rf {t : sg} : offK t t := fun _ _ _ => rfl
theorem offK.tr {t t' t'' : sg} (h1 : offK t t') (h2 : offK t' t'') : offK t t'' := fun p k a => (h2 p k a).trans (h1 p k a)
theorem offK.u {t : sg} {k : Nat} {v : Int32} (hk : 10 ≤ k ∧ k ≤ 15) : offK t (up t 10 k v) := fun p j a => if_neg (fun w => a ⟨w.1, by omega, by omega⟩)
theorem EN.k {t t' : sg} (E : EN t) (h : t' 14 = t 14) : EN t' := by
  obtain ⟨e, h1, h2⟩ := E
  exact ⟨e, fun j hj => by rw [h]; exact h1 j hj, h2⟩
theorem TX.keep {t t' : sg} {L p b rr : Nat} (X : TX t L p b rr) (h1 : t' 10 8 = t 10 8) (h2 : t' 10 12 = t 10 12) (h3 : t' 10 10 = t 10 10) (h4 : t' 10 3 = t 10 3) (h5 : t' 12 49 = t 12 49) (h6 : t' 14 = t 14) : TX t' L p b rr :=
  ⟨h1.trans X.l, X.l2, h2.trans X.p, X.p2, h3.trans X.b, X.b2, h4.trans X.r, X.r2, h5.trans X.h, X.e.k h6⟩
theorem up14 {t : sg} {q k : Nat} {v : Int32} (h : q ≠ 14) : up t q k v 14 = t 14 := by
  funext j; exact up_p (Ne.symm h)
theorem TX.u {t : sg} {L p b rr k : Nat} {v : Int32} (X : TX t L p b rr) (hk : k ≠ 8 ∧ k ≠ 12 ∧ k ≠ 10 ∧ k ≠ 3) : TX (up t 10 k v) L p b rr :=
  X.keep (up_k (by omega)) (up_k (by omega)) (up_k (by omega)) (up_k (by omega)) (up_p (by decide)) (up14 (by decide))
theorem TX.ur {t : sg} {L p b rr k : Nat} {v : Int32} (X : TX t L p b rr) (hk : k ≠ 49) : TX (up t 12 k v) L p b rr :=
  X.keep (up_p (by decide)) (up_p (by decide)) (up_p (by decide)) (up_p (by decide)) (up_k (by omega)) (up14 (by decide))
theorem TX.u12 {t : sg} {L p b rr q : Nat} (X : TX t L p b rr) (hq : q ≤ L) : TX (up t 10 12 (nI q)) L q b rr :=
  ⟨(up_k (by decide)).trans X.l, X.l2, up_eq, hq, (up_k (by decide)).trans X.b, X.b2, (up_k (by decide)).trans X.r, X.r2, (up_p (by decide)).trans X.h, X.e.k (up14 (by decide))⟩
theorem TX.u10 {t : sg} {L p b rr q : Nat} (X : TX t L p b rr) (hq : q ≤ 6) : TX (up t 10 10 (nI q)) L p q rr :=
  ⟨(up_k (by decide)).trans X.l, X.l2, (up_k (by decide)).trans X.p, X.p2, up_eq, hq, (up_k (by decide)).trans X.r, X.r2, (up_p (by decide)).trans X.h, X.e.k (up14 (by decide))⟩
theorem TX.u3 {t : sg} {L p b rr q : Nat} (X : TX t L p b rr) (hq : q ≤ 6) : TX (up t 10 3 (nI q)) L p b q :=
  ⟨(up_k (by decide)).trans X.l, X.l2, (up_k (by decide)).trans X.p, X.p2, (up_k (by decide)).trans X.b, X.b2, up_eq, hq, (up_p (by decide)).trans X.h, X.e.k (up14 (by decide))⟩
def bt (t : sg) (L q : Nat) : Int32 := if q < L then t 13 q else (-4)
section MT
variable {t t0 : sg} {L p b rr : Nat} {x x1 x2 x3 x4 x5 : Int32}
theorem byteAt_eq {q : Nat} (X : TX t L p b rr) (hq : q < 2 ^ 30) : M_byteAt (nI q) t = some (bt t L q) := by
  have h2 := X.l2
  unfold M_byteAt bt
  rw [X.l]
  by_cases c : q < L
  · rw [if_pos (by rw [nI_ltI (by omega) (by omega)]; exact c), if_pos c, midx_nI (by omega) (by decide)]; rfl
  · rw [if_neg (by rw [nI_ltI (by omega) (by omega)]; exact c), if_neg c]
theorem in_eq {lo hi : Int32} {l u : Int64} (hl : l = lo.toInt64) (hu : u = hi.toInt64) : M_in x.toInt64 l u t = some (if x < lo then nI 0 else if hi < x then nI 0 else nI 1) := by
  subst hl; subst hu
  unfold M_in
  by_cases c : x < lo
  · rw [if_pos ((l64s _ _).mpr c), if_pos c]
  · rw [if_neg (fun q => c ((l64s _ _).mp q)), if_neg c]
    by_cases d : hi < x
    · rw [if_pos ((l64s _ _).mpr d), if_pos d]
    · rw [if_neg (fun q => d ((l64s _ _).mp q)), if_neg d]
theorem wIn {α : Type} {lo hi : Int32} {l u : Int64} {A B : Option α} {Q : α → Prop} (hl : l = lo.toInt64) (hu : u = hi.toInt64) (h0 : ¬ (¬ x < lo ∧ ¬ hi < x) → wp A Q) (h1 : ¬ x < lo → ¬ hi < x → wp B Q) : wp ((M_in x.toInt64 l u t).bind fun v => if v = 0 then A else B) Q := by
  rw [in_eq hl hu]
  by_cases c : x < lo
  · rw [if_pos c]; exact h0 (fun q => q.1 c)
  · rw [if_neg c]
    by_cases d : hi < x
    · rw [if_pos d]; exact h0 (fun q => q.2 d)
    · rw [if_neg d]; exact h1 c d
theorem V_fails {c : Nat} (X : TX t L p b rr) (hc : 1 ≤ c ∧ c ≤ 6) : wp (M_fails (nI c) t) (fun t' => (∃ b', TX t' L p b' rr ∧ b' ≠ 0) ∧ offK t t') := by
  have h2 := X.b2
  unfold M_fails
  rw [X.b]
  refine wi (fun _ => wsb (wsb (ws ⟨⟨c, (X.u10 (by omega)).u (by decide), by omega⟩, (offK.u (by decide)).tr (offK.u (by decide))⟩))) (fun q => ws ⟨⟨b, X, fun e => q (by rw [e]; rfl)⟩, offK.rf⟩)
theorem bt_lt {q : Nat} (h : ¬ bt t L q = -4) : q < L := by
  unfold bt at h
  by_cases c : q < L
  · exact c
  · rw [if_neg c] at h; exact absurd rfl h
/-- after a step -/
def SQ (t : sg) (L p b rr : Nat) (t' : sg) : Prop := ∃ p' b', TX t' L p' b' rr ∧ p ≤ p' ∧ (b' = 0 → b = 0 ∧ FR t' p' ∧ (t' 10 14 = nI 0 ∨ p < p')) ∧ offK t t'
theorem V_st84 {f : Nat} (hf0 : f ≤ p) : ∀ (n q fu : Nat) (t : sg), offK t0 t → TX t L q b rr → t 10 13 = nI f → p ≤ q → (p < q ∨ (¬ bt t L q < nI 97 ∧ ¬ nI 122 < bt t L q)) → q + n = L → n < fu → b = 0 → wp (M_step_84 fu t) (SQ t0 L p 0 rr)
  | n, q, 0, t, o, X, F, hp, hd, hr, hf, hb => absurd hf (by omega)
  | n, q, fu + 1, t, o, X, F, hp, hd, hr, hf, hb => by
    have h2 := X.l2
    rw [M_step_84, X.p, byteAt_eq X (by omega)]
    refine wsb (wIn (lo := nI 97) (hi := nI 122) rfl rfl (fun c => wsb (ws ?_)) (fun c1 c2 => ?_))
    · subst hb
      exact ⟨q, 0, X.u (by decide), hp, fun _ => ⟨rfl, ⟨f, by omega, (up_k (by decide)).trans F⟩, Or.inr (hd.resolve_right c)⟩, o.tr (offK.u (by decide))⟩
    · have hq : q < L := bt_lt (fun e => by rw [e] at c1; exact absurd c1 (by decide))
      obtain ⟨n, rfl⟩ : ∃ k, n = k + 1 := ⟨n - 1, by omega⟩
      rw [nI_add]
      exact wsb (V_st84 hf0 n (q + 1) fu _ (o.tr (offK.u (by decide))) (X.u12 (by omega)) ((up_k (by decide)).trans F) (by omega) (Or.inl (by omega)) (by omega) (by omega) hb)
theorem V_st140 {f : Nat} (hf0 : f ≤ p) : ∀ (n q fu : Nat) (t : sg), offK t0 t → TX t L q b rr → t 10 13 = nI f → p ≤ q → (p < q ∨ (¬ bt t L q < nI 48 ∧ ¬ nI 57 < bt t L q)) → q + n = L → n < fu → b = 0 → wp (M_step_140 fu t) (SQ t0 L p 0 rr)
  | n, q, 0, t, o, X, F, hp, hd, hr, hf, hb => absurd hf (by omega)
  | n, q, fu + 1, t, o, X, F, hp, hd, hr, hf, hb => by
    have h2 := X.l2
    rw [M_step_140, X.p, byteAt_eq X (by omega)]
    refine wsb (wIn (lo := nI 48) (hi := nI 57) rfl rfl (fun c => wsb ?_) (fun c1 c2 => ?_))
    · subst hb
      have X1 : TX (up t 10 14 (nI 2)) L q 0 rr := X.u (by decide)
      refine wi (fun _ => wb (V_fails X1 (by decide)) (fun t1 g1 => ws ?_)) (fun _ => ws ?_)
      · obtain ⟨⟨b', X', hb'⟩, o'⟩ := g1
        exact ⟨q, b', X', hp, fun e => absurd e hb', (o.tr (offK.u (by decide))).tr o'⟩
      · exact ⟨q, 0, X1, hp, fun _ => ⟨rfl, ⟨f, by omega, (up_k (by decide)).trans F⟩, Or.inr (hd.resolve_right c)⟩, o.tr (offK.u (by decide))⟩
    · have hq : q < L := bt_lt (fun e => by rw [e] at c1; exact absurd c1 (by decide))
      obtain ⟨n, rfl⟩ : ∃ k, n = k + 1 := ⟨n - 1, by omega⟩
      have w : ∀ y : Int32, wp (M_step_201 (M_step_140 fu) y t) (SQ t0 L p 0 rr) := fun y => by
        unfold M_step_201
        refine wsb (wsb ?_)
        rw [up_k (by decide), X.p, nI_add]
        exact V_st140 hf0 n (q + 1) fu _ ((o.tr (offK.u (by decide))).tr (offK.u (by decide))) ((X.u (by decide)).u12 (by omega)) ((up_k (by decide)).trans ((up_k (by decide)).trans F)) (by omega) (Or.inl (by omega)) (by omega) (by omega) hb
      exact wi (fun _ => wsb (w _)) (fun _ => w _)
theorem bt_up {q k : Nat} {v : Int32} : bt (up t 10 k v) L q = bt t L q := by
  unfold bt; rw [up_p (by decide)]
theorem V_st8 : ∀ (n q fu : Nat) (t : sg), offK t0 t → TX t L q b rr → p ≤ q → q + n = L → n < fu → b = 0 → wp (M_step_8 fu t) (SQ t0 L p 0 rr)
  | n, q, 0, t, o, X, hp, hr, hf, hb => absurd hf (by omega)
  | n, q, fu + 1, t, o, X, hp, hr, hf, hb => by
    have h2 := X.l2
    rw [M_step_8, X.p, byteAt_eq X (by omega)]
    refine wsb (wi (fun c => ?_) (fun c => wsb ?_))
    · have hq : q < L := bt_lt (fun e => by rw [e] at c; exact absurd c (by decide))
      obtain ⟨n, rfl⟩ : ∃ k, n = k + 1 := ⟨n - 1, by omega⟩
      rw [nI_add]
      exact wsb (V_st8 n (q + 1) fu _ (o.tr (offK.u (by decide))) (X.u12 (by omega)) (by omega) (by omega) (by omega) hb)
    · have X1 : TX (up t 10 13 (nI q)) L q b rr := X.u (by decide)
      rw [X1.p, byteAt_eq X1 (by omega), bt_up]
      refine wsb (wsb ?_)
      have X2 : TX (up (up t 10 13 (nI q)) 10 15 (nI 0)) L q b rr := X1.u (by decide)
      have o2 : offK t0 (up (up t 10 13 (nI q)) 10 15 (nI 0)) := (o.tr (offK.u (by decide))).tr (offK.u (by decide))
      have F2 : (up (up t 10 13 (nI q)) 10 15 (nI 0)) 10 13 = nI q := (up_k (by decide)).trans up_eq
      have B2 : bt (up (up t 10 13 (nI q)) 10 15 (nI 0)) L q = bt t L q := bt_up.trans bt_up
      refine wi (fun _ => wsb (ws ?_)) (fun c4 => ?_)
      · subst hb
        exact ⟨q, 0, X2.u (by decide), hp, fun _ => ⟨rfl, ⟨q, by omega, (up_k (by decide)).trans F2⟩, Or.inl up_eq⟩, o2.tr (offK.u (by decide))⟩
      · have hq : q < L := bt_lt c4
        have lift : ∀ o : Option sg, wp o (SQ t0 L q 0 rr) → wp o (SQ t0 L p 0 rr) := fun o h => wc h (fun t' h' => by
          obtain ⟨p', b', X', hp', hb', o'⟩ := h'
          exact ⟨p', b', X', by omega, fun e => ⟨(hb' e).1, (hb' e).2.1, (hb' e).2.2.imp (fun z => z) (fun z => by omega)⟩, o'⟩)
        refine wIn (lo := nI 97) (hi := nI 122) rfl rfl (fun _ => wIn (lo := nI 48) (hi := nI 57) rfl rfl (fun _ => wsb (wsb ?_)) (fun c5 c6 => ?_)) (fun c5 c6 => ?_)
        · rw [up_k (by decide), X2.p, nI_add]
          have X4 : TX (up (up (up (up t 10 13 (nI q)) 10 15 (nI 0)) 10 14 (nI 3)) 10 12 (nI (q + 1))) L (q + 1) b rr := (X2.u (by decide)).u12 (by omega)
          have o4 : offK t0 (up (up (up (up t 10 13 (nI q)) 10 15 (nI 0)) 10 14 (nI 3)) 10 12 (nI (q + 1))) := (o2.tr (offK.u (by decide))).tr (offK.u (by decide))
          refine wi (fun _ => ws ?_) (fun _ => wb (V_fails X4 (by decide)) (fun t5 g5 => ws ?_))
          · subst hb
            exact ⟨q + 1, 0, X4, by omega, fun _ => ⟨rfl, ⟨q, by omega, (up_k (by decide)).trans ((up_k (by decide)).trans F2)⟩, Or.inr (by omega)⟩, o4⟩
          · obtain ⟨⟨b', X', hb'⟩, o'⟩ := g5
            exact ⟨q + 1, b', X', by omega, fun e => absurd e hb', o4.tr o'⟩
        · exact lift _ (V_st140 (Nat.le_refl q) (L - q) q FU _ o2 X2 F2 (Nat.le_refl q) (Or.inr (by rw [B2]; exact ⟨c5, c6⟩)) (by omega) (by show L - q < 100000; omega) hb)
        · exact lift _ (V_st84 (Nat.le_refl q) (L - q) q FU _ o2 X2 F2 (Nat.le_refl q) (Or.inr (by rw [B2]; exact ⟨c5, c6⟩)) (by omega) (by show L - q < 100000; omega) hb)
theorem V_step (X : TX t L p b rr) : wp (M_step t) (SQ t L p b rr) := by
  have h2 := X.l2
  have hb := X.b2
  have hp := X.p2
  unfold M_step
  rw [X.b]
  refine wi (fun c => ws ⟨p, b, X, Nat.le_refl p, fun e => ?_, offK.rf⟩) (fun c => ?_)
  · rw [e] at c; exact absurd c (by decide)
  · have e0 : b = 0 := by
      rcases Nat.eq_zero_or_pos b with e | e
      · exact e
      · exact absurd ((nI_ltI (a := 0) (by decide) (by omega)).mpr e) c
    subst e0
    exact V_st8 (L - p) p FU t offK.rf X (Nat.le_refl p) (by omega) (by show L - p < 100000; omega) rfl
/-- after a number -/
def SR (t : sg) (L p b rr : Nat) (t' : sg) : Prop := ∃ p' b', TX t' L p' b' rr ∧ p ≤ p' ∧ (b' = 0 → b = 0) ∧ offK t t'
theorem SQ.r {t' : sg} (h : SQ t L p b rr t') : SR t L p b rr t' := by
  obtain ⟨p', b', X, hp, hb, o⟩ := h
  exact ⟨p', b', X, hp, fun e => (hb e).1, o⟩
theorem V_n62 {y : Int32} {P : Int32 → Prop} {b0 : Nat} (X : TX t L p b rr) (o : offK t0 t) (hb : b = 0 → b0 = 0) (hy : P y) : wp (M_number_62 y t) (fun v => P v.1 ∧ SR t0 L p b0 rr v.2) := by
  unfold M_number_62
  refine wb (V_step X) (fun t1 h1 => ws ⟨hy, ?_⟩)
  obtain ⟨p', b', X', hp, hb', o'⟩ := h1
  exact ⟨p', b', X', hp, fun e => hb (hb' e).1, o.tr o'⟩
theorem V_n20 {lo hi b0 : Nat} (X : TX t L p b rr) (o : offK t0 t) (hb : b = 0 → b0 = 0) (hl : lo ≤ hi) (hh : hi < 1000) : wp (M_number_20 (nI lo) (nI hi) t) (fun v => (∃ w, lo ≤ w ∧ w ≤ hi ∧ v.1 = nI w) ∧ SR t0 L p b0 rr v.2) := by
  unfold M_number_20
  have w0 : ∀ {t' : sg} {b' : Nat}, TX t' L p b' rr → offK t0 t' → (b' = 0 → b0 = 0) → b' ≠ 0 → wp (M_number_47 (nI lo) t') (fun v => (∃ w, lo ≤ w ∧ w ≤ hi ∧ v.1 = nI w) ∧ SR t0 L p b0 rr v.2) := fun {t' b'} X' o' hb' hz => by
    have := X'.b2
    unfold M_number_47
    rw [X'.b]
    refine wi (fun c => absurd ((nI_eq (by omega) (by decide)).mp c) hz) (fun _ => V_n62 (P := fun y => ∃ w, lo ≤ w ∧ w ≤ hi ∧ y = nI w) X' o' hb' ⟨lo, Nat.le_refl _, hl, rfl⟩)
  have hb2 := X.b2
  rw [X.b]
  refine wi (fun c => wIn (lo := nI lo) (hi := nI hi) rfl rfl (fun _ => wb (V_fails X (by decide)) (fun t1 g1 => ?_)) (fun c1 c2 => ?_)) (fun c => ?_)
  · obtain ⟨⟨b', X', hb'⟩, o'⟩ := g1
    exact w0 X' (o.tr o') (fun e => absurd e hb') hb'
  · unfold M_number_47
    rw [X.b, if_pos c]
    obtain ⟨w, h1, h2, e⟩ := in_nI (by omega) ⟨c1, c2⟩ (by omega)
    exact V_n62 (P := fun y => ∃ w, lo ≤ w ∧ w ≤ hi ∧ y = nI w) X o hb ⟨w, h1, h2, e⟩
  · exact w0 X o hb (fun e => c (by rw [e]; rfl))
theorem V_number {lo hi : Nat} (X : TX t L p b rr) (hl : lo ≤ hi) (hh : hi < 1000) : wp (M_number (nI lo) (nI hi) t) (fun v => (∃ w, lo ≤ w ∧ w ≤ hi ∧ v.1 = nI w) ∧ SR t L p b rr v.2) := by
  unfold M_number
  refine wi (fun _ => wi (fun _ => V_n20 X offK.rf id hl hh) (fun _ => wb (V_fails X (by decide)) (fun t1 g1 => ?_))) (fun _ => V_n20 X offK.rf id hl hh)
  obtain ⟨⟨b', X', hb'⟩, o'⟩ := g1
  exact V_n20 X' o' (fun e => absurd e hb') hl hh
/-- off the reader's cells -/
def offLn (t t' : sg) : Prop := ∀ p k, ¬ (p = 10 ∧ ((3 ≤ k ∧ k ≤ 6) ∨ (10 ≤ k ∧ k ≤ 15))) → p ≠ 12 → t' p k = t p k
theorem offLn.rf {t : sg} : offLn t t := fun _ _ _ _ => rfl
theorem offLn.tr {t t' t'' : sg} (h1 : offLn t t') (h2 : offLn t' t'') : offLn t t'' := fun p k a b => (h2 p k a b).trans (h1 p k a b)
theorem offK.l {t t' : sg} (o : offK t t') : offLn t t' := fun p k a _ => o p k (fun w => a ⟨w.1, Or.inr w.2⟩)
theorem offLn.u {t : sg} {k : Nat} {v : Int32} (hk : 3 ≤ k ∧ k ≤ 6) : offLn t (up t 10 k v) := fun p j a _ => if_neg (fun w => a ⟨w.1, Or.inl (by omega)⟩)
theorem offLn.ur {t : sg} {k : Nat} {v : Int32} : offLn t (up t 12 k v) := fun p j _ c => if_neg (fun w => c w.1)
/-- after what a line holds -/
def SL (t : sg) (L p b : Nat) (t' : sg) : Prop := ∃ p' b' rr', TX t' L p' b' rr' ∧ p ≤ p' ∧ (b' = 0 → b = 0) ∧ offLn t t'
theorem V_rt50 {b0 : Nat} (X : TX t L p b rr) (o : offLn t0 t) (hb : b = 0 → b0 = 0) : wp (M_readTongue_50 x1 t) (SL t0 L p b0) := by
  unfold M_readTongue_50
  refine wb (V_number X (by decide) (by decide)) (fun v h => ?_)
  obtain ⟨⟨w, -, hw, e⟩, p', b', X', hp, hb', o'⟩ := h
  have k : ∀ y : Int32, wp (M_readTongue_74 x1 v.1 y v.2) (SL t0 L p b0) := fun y => by
    unfold M_readTongue_74
    rw [e, nI_add, nI_add]
    refine wsb (wm rfl (by omega) (by decide) (wsb ?_))
    have X2 : TX (up (up v.2 10 6 y) 12 (18 + w) (x1 + nI 1)) L p' b' rr := (X'.u (by decide)).ur (by omega)
    refine wb (V_number X2 (by decide) (by decide)) (fun v2 h2 => wm rfl (by omega) (by decide) (wsb (ws ?_)))
    obtain ⟨-, p2, b2, X3, hp2, hb2, o3⟩ := h2
    exact ⟨p2, b2, rr, X3.ur (by omega), by omega, fun e => hb (hb' (hb2 e)), (((((o.tr o'.l).tr (offLn.u (by decide))).tr offLn.ur).tr o3.l)).tr offLn.ur⟩
  exact wi (fun _ => k _) (fun _ => k _)
theorem V_readTongue (X : TX t L p b rr) : wp (M_readTongue x1 t) (SL t L p b) := by
  unfold M_readTongue
  have k := V_rt50 (x1 := x1) X offLn.rf id
  refine wi (fun _ => wi (fun _ => wIn (lo := nI 0) (hi := nI 5) rfl rfl (fun _ => k) (fun c1 c2 => ?_)) (fun _ => k)) (fun _ => k)
  obtain ⟨w, -, hw, e⟩ := in_nI (by decide) ⟨c1, c2⟩ (by decide)
  rw [e]
  refine wm (nI_add 18 w) (by omega) (by decide) (wi (fun _ => wb (V_fails X (by decide)) (fun t1 g1 => ?_)) (fun _ => k))
  obtain ⟨⟨b', X', hb'⟩, o'⟩ := g1
  exact V_rt50 X' o'.l (fun e => absurd e hb')
theorem V_rw50 {b0 : Nat} (X : TX t L p b rr) (o : offLn t0 t) (hb : b = 0 → b0 = 0) : wp (M_readWall_50 t) (SL t0 L p b0) := by
  unfold M_readWall_50
  refine wb (V_number X (by decide) (by decide)) (fun v h => ?_)
  obtain ⟨⟨w, -, hw, e⟩, p', b', X', hp, hb', o'⟩ := h
  have k : ∀ y : Int32, wp (M_readWall_78 v.1 y v.2) (SL t0 L p b0) := fun y => by
    unfold M_readWall_78
    rw [e]
    refine wsb (wsb ?_)
    refine wb (V_number ((X'.u (by decide)).u (by decide)) (by decide) (by decide)) (fun v2 h2 => wm (nI_add 36 w) (by omega) (by decide) (wsb (ws ?_)))
    obtain ⟨-, p2, b2, X3, hp2, hb2, o3⟩ := h2
    exact ⟨p2, b2, rr, X3.ur (by omega), by omega, fun e => hb (hb' (hb2 e)), (((((o.tr o'.l).tr (offLn.u (by decide))).tr (offLn.u (by decide))).tr o3.l)).tr offLn.ur⟩
  exact wi (fun _ => k _) (fun _ => k _)
theorem V_readWall (X : TX t L p b rr) : wp (M_readWall t) (SL t L p b) := by
  unfold M_readWall
  have k := V_rw50 X offLn.rf id
  refine wi (fun _ => wi (fun _ => wIn (lo := nI 0) (hi := nI 4) rfl rfl (fun _ => k) (fun c1 c2 => wi (fun _ => wb (V_fails X (by decide)) (fun t1 g1 => ?_)) (fun _ => k))) (fun _ => k)) (fun _ => k)
  obtain ⟨⟨b', X', hb'⟩, o'⟩ := g1
  exact V_rw50 X' o'.l (fun e => absurd e hb')
theorem V_ro2 {b0 p0 : Nat} : ∀ (n q fu p b : Nat) (t : sg), TX t L p b rr → offLn t0 t → (b = 0 → b0 = 0) → p0 ≤ p → q + n = 8 → n < fu → wp (M_readOut_2 fu (nI q) t) (SL t0 L p0 b0)
  | n, q, 0, p, b, t, X, o, hb, hp, hr, hf => absurd hf (by omega)
  | n, q, fu + 1, p, b, t, X, o, hb, hp, hr, hf => by
    rw [M_readOut_2]
    have done : SL t0 L p0 b0 t := ⟨p, b, rr, X, hp, hb, o⟩
    refine wi (fun _ => wi (fun _ => wi (fun _ => wb (V_fails X (by decide)) (fun t1 g1 => ws ?_)) (fun c => ?_)) (fun _ => ws done)) (fun _ => ws done)
    · obtain ⟨⟨b', X', hb'⟩, o'⟩ := g1
      exact ⟨p, b', rr, X', hp, fun e => absurd e hb', o.tr o'.l⟩
    · have hq : q ≠ 8 := fun e => c (by rw [e])
      obtain ⟨n, rfl⟩ : ∃ k, n = k + 1 := ⟨n - 1, by omega⟩
      refine wb (V_number X (by decide) (by decide)) (fun v h => ?_)
      obtain ⟨-, p', b', X', hp', hb', o'⟩ := h
      rw [nI_add, nI_add]
      exact wm rfl (by omega) (by decide) (wsb (V_ro2 n (q + 1) fu p' b' _ (X'.ur (by omega)) ((o.tr o'.l).tr offLn.ur) (fun e => hb (hb' e)) (by omega) (by omega) (by omega)))
theorem V_readMore {n : Nat} (X : TX t L p b rr) (hn : n ≤ 6) (h4 : n = 4 → rr < 6) : wp (M_readMore (nI n) t) (SL t L p b) := by
  unfold M_readMore
  refine wi (fun _ => wi (fun c => ?_) (fun _ => wi (fun _ => wb (V_readWall X) (fun t1 h1 => ws h1)) (fun _ => wb (V_ro2 8 0 FU p b t X offLn.rf id (Nat.le_refl p) (by omega) (by decide)) (fun t1 h1 => ws h1)))) (fun _ => wb (V_readTongue X) (fun t1 h1 => ws h1))
  have hr := h4 ((nI_eq (by omega) (by decide)).mp c)
  refine wb (V_number X (by decide) (by decide)) (fun v3 h3 => ?_)
  obtain ⟨-, p3, b3, X3, hp3, hb3, o3⟩ := h3
  rw [X.r]
  refine wm rfl (by omega) (by decide) (wsb ?_)
  have Y3 := X3.ur (k := rr) (v := v3.1) (by omega)
  refine wb (V_number Y3 (by decide) (by decide)) (fun v4 h4 => ?_)
  obtain ⟨-, p4, b4, X4, hp4, hb4, o4⟩ := h4
  rw [Y3.r]
  refine wm (nI_add 6 rr) (by omega) (by decide) (wsb ?_)
  have Y4 := X4.ur (k := 6 + rr) (v := v4.1) (by omega)
  refine wb (V_number Y4 (by decide) (by decide)) (fun v5 h5 => ?_)
  obtain ⟨-, p5, b5, X5, hp5, hb5, o5⟩ := h5
  rw [Y4.r]
  refine wm (nI_add 12 rr) (by omega) (by decide) (wsb (wsb (ws ?_)))
  have Y5 := X5.ur (k := 12 + rr) (v := v5.1) (by omega)
  rw [Y5.r, nI_add]
  exact ⟨p5, b5, rr + 1, Y5.u3 (by omega), by omega, fun e => hb3 (hb4 (hb5 e)), (((((o3.l.tr offLn.ur).tr o4.l).tr offLn.ur).tr o5.l).tr offLn.ur).tr (offLn.u (by decide))⟩
/-- after a line -/
def SJ (t : sg) (L p : Nat) (t' : sg) : Prop := ∃ p' b' rr', TX t' L p' b' rr' ∧ (b' = 0 → FR t' p' ∧ (t' 10 14 = nI 0 ∨ p < p')) ∧ offLn t t'
theorem V_rl119 {p0 : Nat} (X : TX t L p b rr) (o : offLn t0 t) (hp : p0 ≤ p) : wp (M_readLine_119 t) (SJ t0 L p0) := by
  unfold M_readLine_119
  refine wb (V_step X) (fun t1 h1 => ws ?_)
  obtain ⟨p', b', X', hp', hb', o'⟩ := h1
  exact ⟨p', b', rr, X', fun e => ⟨(hb' e).2.1, (hb' e).2.2.imp (fun z => z) (fun z => by omega)⟩, o.tr o'.l⟩
theorem V_rl79 {n : Nat} {y : Int32} (hy : y = nI 0 ∨ y = nI 1) (X : TX t L p b rr) (o : offLn t0 t) (hn : n ≤ 6) (h4 : n = 4 → b = 0 → rr < 6) : wp (M_readLine_79 (nI n) y t) (SJ t0 L p) := by
  unfold M_readLine_79
  refine wi (fun _ => wsb ?_) (fun c => absurd hy c)
  have X1 : TX (up t 10 5 y) L p b rr := X.u (by decide)
  refine wb (V_step X1) (fun t2 h2 => ?_)
  obtain ⟨p2, b2, X2, hp2, hb2, o2⟩ := h2
  have o2' : offLn t0 t2 := (o.tr (offLn.u (by decide))).tr o2.l
  rw [X2.b]
  have hbb := X2.b2
  refine wi (fun c => ws ⟨p2, b2, rr, X2, fun e => ?_, o2'⟩) (fun c => ?_)
  · rw [e] at c; exact absurd c (by decide)
  have e0 : b2 = 0 := by
    rcases Nat.eq_zero_or_pos b2 with e | e
    · exact e
    · exact absurd ((nI_ltI (a := 0) (by decide) (by omega)).mpr e) c
  refine wb (V_readMore X2 hn (fun e => h4 e (hb2 e0).1)) (fun t3 h3 => ?_)
  obtain ⟨p3, b3, r3, X3, hp3, hb3, o3⟩ := h3
  have o3' := o2'.tr o3
  refine wi (fun _ => wi (fun _ => V_rl119 X3 o3' (by omega)) (fun _ => wb (V_fails X3 (by decide)) (fun t4 g4 => ?_))) (fun _ => V_rl119 X3 o3' (by omega))
  obtain ⟨⟨b4, X4, hb4⟩, o4⟩ := g4
  exact V_rl119 X4 (o3'.tr o4.l) (by omega)
theorem V_rl60 {n : Nat} (X : TX t L p b rr) (o : offLn t0 t) (hn : n ≤ 6) (h4 : n = 4 → b = 0 → rr < 6) : wp (M_readLine_60 (nI n) t) (SJ t0 L p) := by
  unfold M_readLine_60 M_readLine_74
  exact wi (fun _ => wi (fun _ => V_rl79 (Or.inr rfl) X o hn h4) (fun _ => V_rl79 (Or.inl rfl) X o hn h4)) (fun _ => V_rl79 (Or.inr rfl) X o hn h4)
theorem V_rl42 {n : Nat} (X : TX t L p b rr) (o : offLn t0 t) (hn : n ≤ 6) (h4 : n = 4 → b = 0 → rr < 6) : wp (M_readLine_42 (nI n) t) (SJ t0 L p) := by
  unfold M_readLine_42
  refine wi (fun _ => wi (fun _ => V_rl60 X o hn h4) (fun _ => wb (V_fails X (by decide)) (fun t1 g1 => ?_))) (fun _ => V_rl60 X o hn h4)
  obtain ⟨⟨b', X', hb'⟩, o'⟩ := g1
  exact V_rl60 X' (o.tr o'.l) hn (fun _ e => absurd e hb')
theorem V_nh51 {k2 : Int32 → Option Int32} {n f : Nat} {E : Nat → Nat} (X : TX t L p b rr) (F : t 10 13 = nI f) (hfp : f ≤ p) (hE : ∀ j, j ≤ 7 → t 14 j = nI (E j)) (hE2 : ∀ j, j < 7 → E j ≤ E (j + 1) ∧ E (j + 1) ≤ 29) (hn : n < 7) (hk : wp (k2 (nI n + nI 1)) (fun _ => True)) : ∀ (m q fu : Nat) (y : Int32), (y = 0 ∨ p - f = E (n + 1) - E n) → q + m = p - f → m < fu → wp (M_nameHere_51 k2 (nI n) t fu y (nI q)) (fun _ => True)
  | m, q, 0, y, hy, hr, hf => absurd hf (by omega)
  | m, q, fu + 1, y, hy, hr, hf => by
    have h2 := X.l2
    have hp := X.p2
    rw [M_nameHere_51]
    have w106 : ∀ y : Int32, wp (M_nameHere_106 k2 (nI n) y t) (fun _ => True) := fun y => by
      unfold M_nameHere_106
      exact wi (fun _ => hk) (fun _ => ws trivial)
    refine wi (fun _ => w106 _) (fun c => ?_)
    rw [X.p, F, pk_sub hfp]
    refine wi (fun c2 => ?_) (fun _ => w106 _)
    rw [nI_ltI (by omega) (by omega)] at c2
    obtain ⟨m, rfl⟩ : ∃ k, m = k + 1 := ⟨m - 1, by omega⟩
    have hl := hy.resolve_left c
    have h7 := hE2 n hn
    rw [nI_add, byteAt_eq X (by omega)]
    refine wsb (wm rfl (by omega) (by decide) (wm (by rw [hE n (by omega), nI_add]) (show E n + q < 29 by omega) (by decide) ?_))
    rw [nI_add]
    exact wi (fun _ => V_nh51 X F hfp hE hE2 hn hk m (q + 1) fu _ (Or.inr hl) (by omega) (by omega)) (fun _ => V_nh51 X F hfp hE hE2 hn hk m (q + 1) fu _ (Or.inl rfl) (by omega) (by omega))
theorem V_nh2 {f : Nat} {E : Nat → Nat} (X : TX t L p b rr) (F : t 10 13 = nI f) (hfp : f ≤ p) (hE : ∀ j, j ≤ 7 → t 14 j = nI (E j)) (hE2 : ∀ j, j < 7 → E j ≤ E (j + 1) ∧ E (j + 1) ≤ 29) : ∀ (m q fu : Nat), q + m = 7 → m < fu → wp (M_nameHere_2 t fu (nI q)) (fun _ => True)
  | m, q, 0, hr, hf => absurd hf (by omega)
  | m, q, fu + 1, hr, hf => by
    have h2 := X.l2
    have hp := X.p2
    rw [M_nameHere_2]
    refine wi (fun c => wi (fun _ => ?_) (fun _ => ws trivial)) (fun _ => ws trivial)
    rw [nI_ltI (by omega) (by omega)] at c
    obtain ⟨m, rfl⟩ : ∃ k, m = k + 1 := ⟨m - 1, by omega⟩
    have hk : wp (M_nameHere_2 t fu (nI q + nI 1)) (fun _ => True) := by
      rw [nI_add]; exact V_nh2 X F hfp hE hE2 m (q + 1) fu (by omega) (by omega)
    have h7 := hE2 q c
    refine wm (nI_add q 1) (by omega) (by decide) (wm rfl (by omega) (by decide) ?_)
    rw [X.p, F, pk_sub hfp, hE (q + 1) (by omega), hE q (by omega), pk_sub h7.1]
    refine wi (fun e => V_nh51 X F hfp hE hE2 c hk (p - f) 0 FU _ (Or.inr ((nI_eq (by omega) (by omega)).mp e)) (by omega) (by show p - f < 100000; omega)) (fun _ => V_nh51 X F hfp hE hE2 c hk (p - f) 0 FU _ (Or.inl rfl) (by omega) (by show p - f < 100000; omega))
theorem V_readLine (X : TX t L p b rr) (F : FR t p) : wp (M_readLine t) (SJ t L p) := by
  obtain ⟨f, hfp, F⟩ := F
  obtain ⟨E, hE, hE2⟩ := X.e
  unfold M_readLine
  refine wb (P := fun _ => True) ?_ (fun v1 _ => wIn (lo := nI 0) (hi := nI 6) rfl rfl (fun _ => wb (V_fails X (by decide)) (fun t1 g1 => ws ?_)) (fun c1 c2 => ?_))
  · unfold M_nameHere
    exact V_nh2 X F hfp hE hE2 7 0 FU (by omega) (by decide)
  · obtain ⟨⟨b', X', hb'⟩, o'⟩ := g1
    exact ⟨p, b', rr, X', fun e => absurd e hb', o'.l⟩
  · obtain ⟨n, -, hn, rfl⟩ := in_nI (by decide) ⟨c1, c2⟩ (by decide)
    have hr2 := X.r2
    rw [X.r]
    refine wi (fun _ => wi (fun _ => wb (V_fails X (by decide)) (fun t1 g1 => ?_)) (fun c6 => V_rl42 X offLn.rf hn (fun _ _ => ?_))) (fun c4 => V_rl42 X offLn.rf hn (fun e => absurd (by rw [e]) c4))
    · obtain ⟨⟨b', X', hb'⟩, o'⟩ := g1
      exact V_rl42 X' o'.l hn (fun _ e => absurd e hb')
    · have : rr ≠ 6 := fun e => c6 (by rw [e])
      omega
/-- off what a text may write -/
def offX (t t' : sg) : Prop := ∀ p k, ¬ (p = 10 ∧ ((3 ≤ k ∧ k ≤ 6) ∨ (8 ≤ k ∧ k ≤ 15))) → p ≠ 12 → t' p k = t p k
def offY (t t' : sg) : Prop := ∀ p k, p ≠ 10 → ¬ (p = 11 ∧ k < 52) → p ≠ 12 → p ≠ 19 → t' p k = t p k
/-- after a text -/
def SE (t t' : sg) : Prop := t' 10 8 = nI 0 ∧ (offX t t' ∨ (offY t t' ∧ ∃ R : Nat, PG t' 0 R 0 ∧ t' 10 22 = nI 0))
theorem V_tx135 {t1 : sg} {R : Nat} (hR : R ≤ 6) : ∀ (n q fu : Nat) (t : sg), offY t1 t → t 10 8 = nI 0 → t 10 3 = nI R → t 12 49 = nI 0 → (49 < q → t 11 49 = nI 0) → q + n = 52 → n < fu → wp (M_text_135 x1 fu (nI q) t) (fun v => SE t1 v.2)
  | n, q, 0, t, o, h8, h3, h49, hq, hr, hf => absurd hf (by omega)
  | n, q, fu + 1, t, o, h8, h3, h49, hq, hr, hf => by
    rw [M_text_135]
    refine wi (fun c => ?_) (fun c => wsb (wsb (wm rfl (by decide) (by decide) (wsb (wm rfl (by decide) (by decide) (wsb (ws ?_)))))))
    · rw [nI_ltI (by omega) (by omega)] at c
      obtain ⟨n, rfl⟩ : ∃ k, n = k + 1 := ⟨n - 1, by omega⟩
      refine wm rfl (by omega) (by decide) (wm rfl (by omega) (by decide) (wsb ?_))
      rw [nI_add]
      refine V_tx135 hR n (q + 1) fu _ (fun p k a1 a2 a3 a4 => ?_) ((up_p (by decide)).trans h8) ((up_p (by decide)).trans h3) ((up_p (by decide)).trans h49) (fun h => ?_) (by omega) (by omega)
      · rw [up, if_neg (fun w => a2 ⟨w.1, by omega⟩)]; exact o p k a1 a2 a3 a4
      · by_cases e : q = 49
        · subst e; rw [up_eq]; exact h49
        · rw [up_k (by omega)]; exact hq (by omega)
    · rw [nI_ltI (by omega) (by omega)] at c
      refine ⟨?_, Or.inr ⟨fun p k a1 a2 a3 a4 => ?_, R, ⟨?_, hR, by decide, ?_⟩, ?_⟩⟩
      · dsimp only
        rw [up_p (by decide), up_p (by decide), up_k (by decide), up_k (by decide)]; exact h8
      · dsimp only
        rw [up_p a4, up_p a4, up_p a1, up_p a1]; exact o p k a1 a2 a3 a4
      · dsimp only
        rw [up_p (by decide), up_p (by decide), up_k (by decide), up_eq]; exact h3
      · dsimp only
        rw [up_p (by decide), up_p (by decide), up_p (by decide), up_p (by decide)]; exact hq (by omega)
      · dsimp only
        rw [up_p (by decide), up_p (by decide), up_eq]
theorem V_tx105 (X : TX t L p b rr) (o : offX t0 t) : wp (M_text_105 x1 t) (fun v => SE t0 v.2) := by
  unfold M_text_105
  refine wsb (wsb ?_)
  have o2 : ∀ v : Int32, offX t0 (up (up t 10 8 (nI 0)) 10 9 v) := fun v p k a1 a2 => by
    rw [up, if_neg (fun w => a1 ⟨w.1, by omega⟩), up, if_neg (fun w => a1 ⟨w.1, by omega⟩)]; exact o p k a1 a2
  refine wi (fun _ => ws ⟨?_, Or.inl (o2 _)⟩) (fun _ => ?_)
  · dsimp only; rw [up_k (by decide), up_eq]
  · refine V_tx135 X.r2 52 0 FU _ (fun p k a1 a2 a3 a4 => o2 _ p k (fun w => a1 w.1) a3) ?_ ?_ ?_ (fun h => absurd h (by decide)) (by omega) (by decide)
    · rw [up_k (by decide), up_eq]
    · rw [up_k (by decide), up_k (by decide)]; exact X.r
    · rw [up_p (by decide), up_p (by decide)]; exact X.h
theorem offLn.xx {t t' : sg} (o : offLn t t') : offX t t' := fun p k a b => o p k (fun w => a ⟨w.1, by omega⟩) b
theorem offX.tr {t t' t'' : sg} (h1 : offX t t') (h2 : offX t' t'') : offX t t'' := fun p k a b => (h2 p k a b).trans (h1 p k a b)
theorem V_tx81 (X : TX t L p b rr) (o : offX t0 t) : wp (M_text_81 x1 t) (fun v => SE t0 v.2) := by
  unfold M_text_81
  refine wi (fun _ => wi (fun _ => V_tx105 X o) (fun _ => wb (V_fails X (by decide)) (fun t1 g1 => ?_))) (fun _ => V_tx105 X o)
  obtain ⟨⟨b', X', hb'⟩, o'⟩ := g1
  exact V_tx105 X' (o.tr o'.l.xx)
theorem V_tx57 : ∀ (n fu p b rr : Nat) (x1 : Int32) (t : sg), TX t L p b rr → (b = 0 → FR t p) → offX t0 t → p + n = L → n + 2 ≤ fu ∨ (1 ≤ fu ∧ (b = 0 → t 10 14 = nI 0)) → wp (M_text_57 fu x1 t) (fun v => SE t0 v.2)
  | n, 0, p, b, rr, x1, t, X, F, o, hr, hf => absurd hf (by omega)
  | n, fu + 1, p, b, rr, x1, t, X, F, o, hr, hf => by
    have hb2 := X.b2
    rw [M_text_57, X.b]
    refine wi (fun c => wi (fun _ => V_tx81 X o) (fun c14 => ?_)) (fun _ => V_tx81 X o)
    have e0 : b = 0 := (nI_eq (by omega) (by decide)).mp c
    have hf2 : n + 2 ≤ fu + 1 := hf.resolve_right (fun w => c14 (w.2 e0))
    refine wb (V_readLine X (F e0)) (fun t1 h1 => ?_)
    obtain ⟨p', b', rr', X', hb', o'⟩ := h1
    have hp' := X'.p2
    have hn : ∃ n', p' + n' = L := ⟨L - p', by omega⟩
    obtain ⟨n', hn'⟩ := hn
    refine V_tx57 n' fu p' b' rr' _ t1 X' (fun e => (hb' e).1) (o.tr o'.xx) hn' ?_
    by_cases q : b' = 0
    · rcases (hb' q).2 with z | z
      · exact Or.inr ⟨by omega, fun _ => z⟩
      · exact Or.inl (by omega)
    · exact Or.inr ⟨by omega, fun e => absurd e q⟩
theorem V_tx34 : ∀ (n q fu : Nat) (t : sg), TX t L p b rr ∨ q ≤ 49 → (q ≤ 49 → TX (up t 12 49 (nI 0)) L p b rr) → offX t0 t → q + n = 52 → n < fu → wp (M_text_34 x1 fu (nI q) t) (fun v => SE t0 v.2)
  | n, q, 0, t, X, X0, o, hr, hf => absurd hf (by omega)
  | n, q, fu + 1, t, X, X0, o, hr, hf => by
    rw [M_text_34]
    refine wi (fun c => ?_) (fun c => ?_)
    · rw [nI_ltI (by omega) (by omega)] at c
      obtain ⟨n, rfl⟩ : ∃ k, n = k + 1 := ⟨n - 1, by omega⟩
      refine wm rfl (by omega) (by decide) (wsb ?_)
      rw [nI_add]
      refine V_tx34 n (q + 1) fu _ ?_ (fun h => ?_) (o.tr (offLn.xx offLn.ur)) (by omega) (by omega)
      · by_cases h : q + 1 ≤ 49
        · exact Or.inr h
        · by_cases e : q = 49
          · subst e; exact Or.inl (X0 (by omega))
          · exact Or.inl ((X.resolve_right (by omega)).ur e)
      · have Y := X0 (by omega)
        refine Y.keep ?_ ?_ ?_ ?_ ?_ ?_
        · rw [up_p (by decide), up_p (by decide), up_p (by decide)]
        · rw [up_p (by decide), up_p (by decide), up_p (by decide)]
        · rw [up_p (by decide), up_p (by decide), up_p (by decide)]
        · rw [up_p (by decide), up_p (by decide), up_p (by decide)]
        · rw [up_eq, up_eq]
        · rw [up14 (by decide), up14 (by decide), up14 (by decide)]
    · rw [nI_ltI (by omega) (by omega)] at c
      refine wb (V_step (X.resolve_right (by omega))) (fun t1 h1 => ?_)
      obtain ⟨p', b', X', hp', hb', o'⟩ := h1
      have hp2 := X'.p2
      have hl := X'.l2
      refine V_tx57 (L - p') FU p' b' rr _ t1 X' (fun e => (hb' e).2.1) (o.tr o'.l.xx) (by omega) (Or.inl (by show L - p' + 2 ≤ 100000; omega))
theorem V_M_text (hl : t 10 8 = nI L) (hL : L ≤ 160) (hE : EN t) : wp (M_text t) (fun v => SE t v.2) := by
  unfold M_text
  refine wsb (wsb (wsb (wsb (wsb (wsb ?_)))))
  refine V_tx34 (L := L) (p := 0) (b := 0) (rr := 0) 52 0 FU _ (Or.inr (by decide)) (fun _ => ?_) (fun p k a1 a2 => ?_) (by omega) (by decide)
  · refine ⟨?_, hL, ?_, Nat.zero_le L, ?_, by decide, ?_, by decide, up_eq, hE.k ?_⟩
    · rw [up_p (by decide), up_k (by decide), up_k (by decide), up_k (by decide), up_k (by decide), up_k (by decide), up_k (by decide)]; exact hl
    · rw [up_p (by decide), up_k (by decide), up_k (by decide), up_k (by decide), up_k (by decide), up_eq]
    · rw [up_p (by decide), up_k (by decide), up_k (by decide), up_k (by decide), up_k (by decide), up_k (by decide), up_eq]
    · rw [up_p (by decide), up_k (by decide), up_k (by decide), up_k (by decide), up_eq]
    · rw [up14 (by decide), up14 (by decide), up14 (by decide), up14 (by decide), up14 (by decide), up14 (by decide), up14 (by decide)]
  · rw [up, if_neg (fun w => a1 ⟨w.1, by omega⟩), up, if_neg (fun w => a1 ⟨w.1, by omega⟩), up, if_neg (fun w => a1 ⟨w.1, by omega⟩), up, if_neg (fun w => a1 ⟨w.1, by omega⟩), up, if_neg (fun w => a1 ⟨w.1, by omega⟩), up, if_neg (fun w => a1 ⟨w.1, by omega⟩)]
end MT
