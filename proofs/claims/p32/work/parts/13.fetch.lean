set_option maxRecDepth 100000 in
theorem mdk : ∀ y, y < 185 → (mcode y).all (fun e => decide (decode (mbytes y) e.1 = .ok (e.2.1, e.2.2.1))) = true := lt_s (lt_s (lt_s (lt_s (lt_s (lt_s (lt_s (lt_s (lt_s (lt_s (lt_s (lt_s (lt_s (lt_s (lt_s (lt_s (lt_s (lt_s (lt_s (lt_s (lt_s (lt_s (lt_s (lt_s (lt_s (lt_s (lt_s (lt_s (lt_s (lt_s (lt_s (lt_s (lt_s (lt_s (lt_s (lt_s (lt_s (lt_s (lt_s (lt_s (lt_s (lt_s (lt_s (lt_s (lt_s (lt_s (lt_s (lt_s (lt_s (lt_s (lt_s (lt_s (lt_s (lt_s (lt_s (lt_s (lt_s (lt_s (lt_s (lt_s (lt_s (lt_s (lt_s (lt_s (lt_s (lt_s (lt_s (lt_s (lt_s (lt_s (lt_s (lt_s (lt_s (lt_s (lt_s (lt_s (lt_s (lt_s (lt_s (lt_s (lt_s (lt_s (lt_s (lt_s (lt_s (lt_s (lt_s (lt_s (lt_s (lt_s (lt_s (lt_s (lt_s (lt_s (lt_s (lt_s (lt_s (lt_s (lt_s (lt_s (lt_s (lt_s (lt_s (lt_s (lt_s (lt_s (lt_s (lt_s (lt_s (lt_s (lt_s (lt_s (lt_s (lt_s (lt_s (lt_s (lt_s (lt_s (lt_s (lt_s (lt_s (lt_s (lt_s (lt_s (lt_s (lt_s (lt_s (lt_s (lt_s (lt_s (lt_s (lt_s (lt_s (lt_s (lt_s (lt_s (lt_s (lt_s (lt_s (lt_s (lt_s (lt_s (lt_s (lt_s (lt_s (lt_s (lt_s (lt_s (lt_s (lt_s (lt_s (lt_s (lt_s (lt_s (lt_s (lt_s (lt_s (lt_s (lt_s (lt_s (lt_s (lt_s (lt_s (lt_s (lt_s (lt_s (lt_s (lt_s (lt_s (lt_s (lt_s (lt_s (lt_s (lt_s (lt_s (lt_s (lt_s (lt_s (lt_s (lt_s (lt_s (lt_s (lt_s (lt_s (lt_s (lt_0) dk_0) dk_1) dk_2) dk_3) dk_4) dk_5) dk_6) dk_7) dk_8) dk_9) dk_10) dk_11) dk_12) dk_13) dk_14) dk_15) dk_16) dk_17) dk_18) dk_19) dk_20) dk_21) dk_22) dk_23) dk_24) dk_25) dk_26) dk_27) dk_28) dk_29) dk_30) dk_31) dk_32) dk_33) dk_34) dk_35) dk_36) dk_37) dk_38) dk_39) dk_40) dk_41) dk_42) dk_43) dk_44) dk_45) dk_46) dk_47) dk_48) dk_49) dk_50) dk_51) dk_52) dk_53) dk_54) dk_55) dk_56) dk_57) dk_58) dk_59) dk_60) dk_61) dk_62) dk_63) dk_64) dk_65) dk_66) dk_67) dk_68) dk_69) dk_70) dk_71) dk_72) dk_73) dk_74) dk_75) dk_76) dk_77) dk_78) dk_79) dk_80) dk_81) dk_82) dk_83) dk_84) dk_85) dk_86) dk_87) dk_88) dk_89) dk_90) dk_91) dk_92) dk_93) dk_94) dk_95) dk_96) dk_97) dk_98) dk_99) dk_100) dk_101) dk_102) dk_103) dk_104) dk_105) dk_106) dk_107) dk_108) dk_109) dk_110) dk_111) dk_112) dk_113) dk_114) dk_115) dk_116) dk_117) dk_118) dk_119) dk_120) dk_121) dk_122) dk_123) dk_124) dk_125) dk_126) dk_127) dk_128) dk_129) dk_130) dk_131) dk_132) dk_133) dk_134) dk_135) dk_136) dk_137) dk_138) dk_139) dk_140) dk_141) dk_142) dk_143) dk_144) dk_145) dk_146) dk_147) dk_148) dk_149) dk_150) dk_151) dk_152) dk_153) dk_154) dk_155) dk_156) dk_157) dk_158) dk_159) dk_160) dk_161) dk_162) dk_163) dk_164) dk_165) dk_166) dk_167) dk_168) dk_169) dk_170) dk_171) dk_172) dk_173) dk_174) dk_175) dk_176) dk_177) dk_178) dk_179) dk_180) dk_181) dk_182) dk_183) dk_184
theorem mcode_lt {y : Nat} {e : mI} (h : e ∈ mcode y) : y < 185 := by
  rcases Nat.lt_or_ge y 185 with q | q
  · exact q
  · have hb : Nat.blt y 185 = false := by
      cases e : Nat.blt y 185 with
      | false => rfl
      | true => exact absurd (Nat.le_of_ble_eq_true e) (Nat.not_le.mpr (Nat.lt_succ_of_le q))
    rw [mcode, hb, cond_false] at h
    exact absurd h List.not_mem_nil
theorem mfetch_inv {y pc : Nat} {e : mI} (h : mfetch y pc = some e) : e.1 = pc ∧ decode (mbytes y) pc = .ok (e.2.1, e.2.2.1) ∧ mchk y e = true := by
  have h1 : e ∈ mcode y := List.mem_of_find?_eq_some h
  have h0 : (mcode y).find? (fun e => Nat.beq e.1 pc) = some e := h
  have h9 := List.find?_some h0
  have h2 : e.1 = pc := Nat.eq_of_beq_eq_true h9
  have hy := mcode_lt h1
  refine ⟨h2, ?_, ?_⟩
  · have h3 := List.all_eq_true.mp (mdk y hy) e h1
    rw [← h2]
    exact of_decide_eq_true h3
  · have h3 := List.all_eq_true.mp mchk_ok y (List.mem_range.mpr hy)
    exact List.all_eq_true.mp h3 e h1
