set_option maxRecDepth 100000 in
theorem moCode_ok : moCode.map (fun y => Cond.code (mname y) (mbytes y) (mmaxL y) (mret y)) = mpick lw_tbl mgaps := rfl
