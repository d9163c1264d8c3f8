/-! every call keeps it -/
theorem steps_RA : stepsOK RA := by
  intro s t R x1 x2 x3 x4 x5
  obtain ⟨R1, h1, hh, H⟩ := R.1.1
  obtain ⟨R2, h2, hk, P⟩ := R.2.1.1
  refine ⟨?_, ?_, ?_, ?_, ?_, ?_, ?_, ?_, ?_, ?_, ?_, ?_, ?_, ?_, ?_, ?_, ?_, ?_, ?_, ?_, ?_, ?_, ?_, ?_, ?_, ?_, ?_, ?_, ?_, ?_, ?_, ?_, ?_, ?_, ?_, ?_, ?_, ?_, ?_⟩
  · exact (by obtain ⟨u, s', t', a, b, c⟩ := B_feed (x1 := x1) R; exact ⟨u, u, s', t', a, b, c⟩)
  · exact B_end R
  · exact B_text R
  · exact B_no (f := fun s => C_fault s) (g := fun t => M_fault t) R ⟨_, rfl, trivial⟩ ⟨_, rfl, trivial⟩
  · exact B_no (f := fun s => C_rule x1 s) (g := fun t => M_rule x1 t) R (W_C_rule (x1 := x1) R.1) (V_M_rule (x1 := x1) R.2.1)
  · exact B_no (f := fun s => C_room x1 x2 s) (g := fun t => M_room x1 x2 t) R (W_C_room (x1 := x1) (x2 := x2) R.1) (V_M_room (x1 := x1) (x2 := x2) R.2.1)
  · exact B_no (f := fun s => C_wall x1 s) (g := fun t => M_wall x1 t) R (W_C_wall (x1 := x1) R.1) (V_M_wall (x1 := x1) R.2.1)
  · exact B_no (f := fun s => C_outside x1 s) (g := fun t => M_outside x1 t) R (W_C_outside (x1 := x1)) (V_M_outside (x1 := x1))
  · exact B_st (f := fun s => C_alter x1 x2 x3 s) (g := fun t => M_alter x1 x2 x3 t) R (W_C_alter (x1 := x1) (x2 := x2) (x3 := x3) R.1) (V_M_alter (x1 := x1) (x2 := x2) (x3 := x3) R.2.1)
  · exact B_st (f := fun s => C_fit x1 x2 x3 s) (g := fun t => M_fit x1 x2 x3 t) R (W_C_fit (x1 := x1) (x2 := x2) (x3 := x3) R.1) (V_M_fit (x1 := x1) (x2 := x2) (x3 := x3) R.2.1)
  · exact B_st (f := fun s => C_strip x1 s) (g := fun t => M_strip x1 t) R (W_C_strip (x1 := x1) R.1) (V_M_strip (x1 := x1) R.2.1)
  · exact B_st (f := fun s => C_mark x1 x2 s) (g := fun t => M_mark x1 x2 t) R (W_C_mark (x1 := x1) (x2 := x2) R.1) (V_M_mark (x1 := x1) (x2 := x2) R.2.1)
  · exact B_st (f := fun s => C_lag x1 x2 s) (g := fun t => M_lag x1 x2 t) R (W_C_lag (x1 := x1) (x2 := x2) R.1) (V_M_lag (x1 := x1) (x2 := x2) R.2.1)
  · exact B_st (f := fun s => C_sky x1 x2 s) (g := fun t => M_sky x1 x2 t) R (W_C_sky (x1 := x1) (x2 := x2) R.1) (V_M_sky (x1 := x1) (x2 := x2) R.2.1)
  · exact B_st (f := fun s => C_hours x1 s) (g := fun t => M_hours x1 t) R (W_C_hours (x1 := x1) R.1) (V_M_hours (x1 := x1) R.2.1)
  · exact B_qu (f := fun s => C_runs x1 x2 s) (g := fun t => M_runs x1 x2 t) R (W_C_runs (x1 := x1) (x2 := x2) H hh) (V_M_runs (x1 := x1) (x2 := x2) P hk)
  · exact B_qu (f := fun s => C_ahead x1 x2 x3 s) (g := fun t => M_ahead x1 x2 x3 t) R (W_C_ahead (x1 := x1) (x2 := x2) (x3 := x3) H hh) (V_M_ahead (x1 := x1) (x2 := x2) (x3 := x3) P hk)
  · exact B_qu (f := fun s => C_cold x1 x2 s) (g := fun t => M_cold x1 x2 t) R (W_C_cold (x1 := x1) (x2 := x2) H hh) (V_M_cold (x1 := x1) (x2 := x2) P hk)
  · exact B_qu (f := fun s => C_again s) (g := fun t => M_again t) R (W_C_again H hh) (V_M_again P hk)
  · exact B_qu (f := fun s => C_need x1 x2 x3 s) (g := fun t => M_need x1 x2 x3 t) R (W_C_need (x1 := x1) (x2 := x2) (x3 := x3) H hh) (V_M_need (x1 := x1) (x2 := x2) (x3 := x3) P hk)
  · exact B_qu (f := fun s => C_kind x1 x2 x3 s) (g := fun t => M_kind x1 x2 x3 t) R (W_C_kind (x1 := x1) (x2 := x2) (x3 := x3) H hh) (V_M_kind (x1 := x1) (x2 := x2) (x3 := x3) P hk)
  · exact B_qu (f := fun s => C_swap x1 x2 s) (g := fun t => M_swap x1 x2 t) R (W_C_swap (x1 := x1) (x2 := x2) H hh) (V_M_swap (x1 := x1) (x2 := x2) P hk)
  · exact B_qu (f := fun s => C_seal x1 x2 s) (g := fun t => M_seal x1 x2 t) R (W_C_seal (x1 := x1) (x2 := x2) H hh) (V_M_seal (x1 := x1) (x2 := x2) P hk)
  · exact B_qu (f := fun s => C_spare x1 x2 x3 s) (g := fun t => M_spare x1 x2 x3 t) R (W_C_spare (x1 := x1) (x2 := x2) (x3 := x3) H hh) (V_M_spare (x1 := x1) (x2 := x2) (x3 := x3) P hk)
  · exact B_qu (f := fun s => C_luck x1 x2 x3 x4 x5 s) (g := fun t => M_luck x1 x2 x3 x4 x5 t) R (W_C_luck (x1 := x1) (x2 := x2) (x3 := x3) (x4 := x4) (x5 := x5) H hh) (V_M_luck (x1 := x1) (x2 := x2) (x3 := x3) (x4 := x4) (x5 := x5) P hk)
  · exact B_qu (f := fun s => C_mean x1 x2 x3 s) (g := fun t => M_mean x1 x2 x3 t) R (W_C_mean (x1 := x1) (x2 := x2) (x3 := x3) H hh) (V_M_mean (x1 := x1) (x2 := x2) (x3 := x3) P hk)
  · exact B_st (f := fun s => C_see x1 x2 x3 s) (g := fun t => M_see x1 x2 x3 t) R (W_C_see (x1 := x1) (x2 := x2) (x3 := x3) R.1) (V_M_see (x1 := x1) (x2 := x2) (x3 := x3) R.2.1)
  · exact B_st (f := fun s => C_forget x1 s) (g := fun t => M_forget x1 t) R (W_C_forget (x1 := x1) R.1) (V_M_forget (x1 := x1) R.2.1)
  · exact B_qu (f := fun s => C_kinds x1 s) (g := fun t => M_kinds x1 t) R (W_C_kinds (x1 := x1) R.1.2.2.1 H hh) (V_M_kinds (x1 := x1) R.2.1.2.2.1 P hk)
  · exact B_qu (f := fun s => C_lets x1 s) (g := fun t => M_lets x1 t) R (W_C_lets (x1 := x1) R.1.2.2.1 H hh) (V_M_lets (x1 := x1) R.2.1.2.2.1 P hk)
  · exact B_qu (f := fun s => C_ask x1 x2 s) (g := fun t => M_ask x1 x2 t) R (W_C_ask (x1 := x1) (x2 := x2) R.1.2.2.1 H hh) (V_M_ask (x1 := x1) (x2 := x2) R.2.1.2.2.1 P hk)
  · exact B_qu (f := fun s => C_drift x1 x2 x3 s) (g := fun t => M_drift x1 x2 x3 t) R (W_C_drift (x1 := x1) (x2 := x2) (x3 := x3) H) (V_M_drift (x1 := x1) (x2 := x2) (x3 := x3) P)
  · exact B_st (f := fun s => C_keep x1 s) (g := fun t => M_keep x1 t) R (W_C_keep (x1 := x1) R.1) (V_M_keep (x1 := x1) R.2.1)
  · exact B_st (f := fun s => C_back x1 s) (g := fun t => M_back x1 t) R (W_C_back (x1 := x1) R.1) (V_M_back (x1 := x1) R.2.1)
  · exact B_sheet R
  · exact B_st (f := fun s => C_lay x1 x2 x3 s) (g := fun t => M_lay x1 x2 x3 t) R (W_C_lay (x1 := x1) (x2 := x2) (x3 := x3) R.1) (V_M_lay (x1 := x1) (x2 := x2) (x3 := x3) R.2.1)
  · exact B_st (f := fun s => C_read x1 x2 x3 x4 s) (g := fun t => M_read x1 x2 x3 x4 t) R (W_C_read (x1 := x1) (x2 := x2) (x3 := x3) (x4 := x4) R.1) (V_M_read (x1 := x1) (x2 := x2) (x3 := x3) (x4 := x4) R.2.1)
  · exact B_no (f := fun s => C_torn s) (g := fun t => M_torn t) R ⟨_, rfl, trivial⟩ ⟨_, rfl, trivial⟩
  · exact B_no (f := fun s => C_count x1 s) (g := fun t => M_count x1 t) R (W_C_count (x1 := x1)) (V_M_count (x1 := x1) R.2.1)
