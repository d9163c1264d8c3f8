section Q05f
theorem dk_115 : mc_115.all (fun e => decide (decode cX5_fails e.1 = .ok (e.2.1, e.2.2.1))) = true := by decide +kernel
theorem dk_116 : mc_116.all (fun e => decide (decode cX5_nameHere e.1 = .ok (e.2.1, e.2.2.1))) = true := by decide +kernel
theorem dk_117 : mc_117.all (fun e => decide (decode cX5_step e.1 = .ok (e.2.1, e.2.2.1))) = true := by decide +kernel
theorem dk_118 : mc_118.all (fun e => decide (decode cX5_number e.1 = .ok (e.2.1, e.2.2.1))) = true := by decide +kernel
theorem dk_119 : mc_119.all (fun e => decide (decode cX5_readTongue e.1 = .ok (e.2.1, e.2.2.1))) = true := by decide +kernel
theorem dk_120 : mc_120.all (fun e => decide (decode cX5_readWall e.1 = .ok (e.2.1, e.2.2.1))) = true := by decide +kernel
theorem dk_121 : mc_121.all (fun e => decide (decode cX5_readOut e.1 = .ok (e.2.1, e.2.2.1))) = true := by decide +kernel
theorem dk_122 : mc_122.all (fun e => decide (decode cX5_readMore e.1 = .ok (e.2.1, e.2.2.1))) = true := by decide +kernel
theorem dk_123 : mc_123.all (fun e => decide (decode cX5_readLine e.1 = .ok (e.2.1, e.2.2.1))) = true := by decide +kernel
theorem dk_124 : mc_124.all (fun e => decide (decode cX5_text e.1 = .ok (e.2.1, e.2.2.1))) = true := by decide +kernel
theorem dk_125 : mc_125.all (fun e => decide (decode cX5_fault e.1 = .ok (e.2.1, e.2.2.1))) = true := by decide +kernel
theorem dk_126 : mc_126.all (fun e => decide (decode cX5_isRoom e.1 = .ok (e.2.1, e.2.2.1))) = true := by decide +kernel
theorem dk_127 : mc_127.all (fun e => decide (decode cX5_isWall e.1 = .ok (e.2.1, e.2.2.1))) = true := by decide +kernel
theorem dk_128 : mc_128.all (fun e => decide (decode cX5_hasTongue e.1 = .ok (e.2.1, e.2.2.1))) = true := by decide +kernel
theorem dk_129 : mc_129.all (fun e => decide (decode cX5_lowOn e.1 = .ok (e.2.1, e.2.2.1))) = true := by decide +kernel
end Q05f
section Q05g
theorem dk_130 : mc_130.all (fun e => decide (decode cX5_highOn e.1 = .ok (e.2.1, e.2.2.1))) = true := by decide +kernel
theorem dk_131 : mc_131.all (fun e => decide (decode cX5_tonguesOn e.1 = .ok (e.2.1, e.2.2.1))) = true := by decide +kernel
theorem dk_132 : mc_132.all (fun e => decide (decode cX5_hourOn e.1 = .ok (e.2.1, e.2.2.1))) = true := by decide +kernel
theorem dk_133 : mc_133.all (fun e => decide (decode cX5_outOn e.1 = .ok (e.2.1, e.2.2.1))) = true := by decide +kernel
theorem dk_134 : mc_134.all (fun e => decide (decode cX5_goesOn e.1 = .ok (e.2.1, e.2.2.1))) = true := by decide +kernel
theorem dk_135 : mc_135.all (fun e => decide (decode cX5_warmthOn e.1 = .ok (e.2.1, e.2.2.1))) = true := by decide +kernel
theorem dk_136 : mc_136.all (fun e => decide (decode cX5_onOn e.1 = .ok (e.2.1, e.2.2.1))) = true := by decide +kernel
theorem dk_137 : mc_137.all (fun e => decide (decode cX5_coldestOn e.1 = .ok (e.2.1, e.2.2.1))) = true := by decide +kernel
theorem dk_138 : mc_138.all (fun e => decide (decode cX5_rule e.1 = .ok (e.2.1, e.2.2.1))) = true := by decide +kernel
theorem dk_139 : mc_139.all (fun e => decide (decode cX5_room e.1 = .ok (e.2.1, e.2.2.1))) = true := by decide +kernel
theorem dk_140 : mc_140.all (fun e => decide (decode cX5_wall e.1 = .ok (e.2.1, e.2.2.1))) = true := by decide +kernel
theorem dk_141 : mc_141.all (fun e => decide (decode cX5_outside e.1 = .ok (e.2.1, e.2.2.1))) = true := by decide +kernel
theorem dk_142 : mc_142.all (fun e => decide (decode cX5_puts e.1 = .ok (e.2.1, e.2.2.1))) = true := by decide +kernel
theorem dk_143 : mc_143.all (fun e => decide (decode cX5_alter e.1 = .ok (e.2.1, e.2.2.1))) = true := by decide +kernel
theorem dk_144 : mc_144.all (fun e => decide (decode cX5_fit e.1 = .ok (e.2.1, e.2.2.1))) = true := by decide +kernel
theorem dk_145 : mc_145.all (fun e => decide (decode cX5_stripsOn e.1 = .ok (e.2.1, e.2.2.1))) = true := by decide +kernel
theorem dk_146 : mc_146.all (fun e => decide (decode cX5_strip e.1 = .ok (e.2.1, e.2.2.1))) = true := by decide +kernel
end Q05g
section Q05h
theorem dk_147 : mc_147.all (fun e => decide (decode cX5_marks e.1 = .ok (e.2.1, e.2.2.1))) = true := by decide +kernel
theorem dk_148 : mc_148.all (fun e => decide (decode cX5_mark e.1 = .ok (e.2.1, e.2.2.1))) = true := by decide +kernel
theorem dk_149 : mc_149.all (fun e => decide (decode cX5_lag e.1 = .ok (e.2.1, e.2.2.1))) = true := by decide +kernel
theorem dk_150 : mc_150.all (fun e => decide (decode cX5_sky e.1 = .ok (e.2.1, e.2.2.1))) = true := by decide +kernel
theorem dk_151 : mc_151.all (fun e => decide (decode cX5_hours e.1 = .ok (e.2.1, e.2.2.1))) = true := by decide +kernel
theorem dk_152 : mc_152.all (fun e => decide (decode cX5_copies e.1 = .ok (e.2.1, e.2.2.1))) = true := by decide +kernel
theorem dk_153 : mc_153.all (fun e => decide (decode cX5_hoursGo e.1 = .ok (e.2.1, e.2.2.1))) = true := by decide +kernel
theorem dk_154 : mc_154.all (fun e => decide (decode cX5_runs e.1 = .ok (e.2.1, e.2.2.1))) = true := by decide +kernel
theorem dk_155 : mc_155.all (fun e => decide (decode cX5_ahead e.1 = .ok (e.2.1, e.2.2.1))) = true := by decide +kernel
theorem dk_156 : mc_156.all (fun e => decide (decode cX5_cold e.1 = .ok (e.2.1, e.2.2.1))) = true := by decide +kernel
theorem dk_157 : mc_157.all (fun e => decide (decode cX5_again e.1 = .ok (e.2.1, e.2.2.1))) = true := by decide +kernel
theorem dk_158 : mc_158.all (fun e => decide (decode cX5_keepsWarm e.1 = .ok (e.2.1, e.2.2.1))) = true := by decide +kernel
theorem dk_159 : mc_159.all (fun e => decide (decode cX5_need e.1 = .ok (e.2.1, e.2.2.1))) = true := by decide +kernel
theorem dk_160 : mc_160.all (fun e => decide (decode cX5_kind e.1 = .ok (e.2.1, e.2.2.1))) = true := by decide +kernel
theorem dk_161 : mc_161.all (fun e => decide (decode cX5_swap e.1 = .ok (e.2.1, e.2.2.1))) = true := by decide +kernel
theorem dk_162 : mc_162.all (fun e => decide (decode cX5_seal e.1 = .ok (e.2.1, e.2.2.1))) = true := by decide +kernel
end Q05h
section Q05i
theorem dk_163 : mc_163.all (fun e => decide (decode cX5_spare e.1 = .ok (e.2.1, e.2.2.1))) = true := by decide +kernel
theorem dk_164 : mc_164.all (fun e => decide (decode cX5_lowest e.1 = .ok (e.2.1, e.2.2.1))) = true := by decide +kernel
theorem dk_165 : mc_165.all (fun e => decide (decode cX5_byFuse e.1 = .ok (e.2.1, e.2.2.1))) = true := by decide +kernel
theorem dk_166 : mc_166.all (fun e => decide (decode cX5_luck e.1 = .ok (e.2.1, e.2.2.1))) = true := by decide +kernel
theorem dk_167 : mc_167.all (fun e => decide (decode cX5_mean e.1 = .ok (e.2.1, e.2.2.1))) = true := by decide +kernel
theorem dk_168 : mc_168.all (fun e => decide (decode cX5_see e.1 = .ok (e.2.1, e.2.2.1))) = true := by decide +kernel
theorem dk_169 : mc_169.all (fun e => decide (decode cX5_forget e.1 = .ok (e.2.1, e.2.2.1))) = true := by decide +kernel
theorem dk_170 : mc_170.all (fun e => decide (decode cX5_isAsSeen e.1 = .ok (e.2.1, e.2.2.1))) = true := by decide +kernel
theorem dk_171 : mc_171.all (fun e => decide (decode cX5_numbersAt e.1 = .ok (e.2.1, e.2.2.1))) = true := by decide +kernel
theorem dk_172 : mc_172.all (fun e => decide (decode cX5_kinds e.1 = .ok (e.2.1, e.2.2.1))) = true := by decide +kernel
theorem dk_173 : mc_173.all (fun e => decide (decode cX5_lets e.1 = .ok (e.2.1, e.2.2.1))) = true := by decide +kernel
theorem dk_174 : mc_174.all (fun e => decide (decode cX5_worstAt e.1 = .ok (e.2.1, e.2.2.1))) = true := by decide +kernel
theorem dk_175 : mc_175.all (fun e => decide (decode cX5_ask e.1 = .ok (e.2.1, e.2.2.1))) = true := by decide +kernel
theorem dk_176 : mc_176.all (fun e => decide (decode cX5_drift e.1 = .ok (e.2.1, e.2.2.1))) = true := by decide +kernel
end Q05i
section Q05j
theorem dk_177 : mc_177.all (fun e => decide (decode cX5_keep e.1 = .ok (e.2.1, e.2.2.1))) = true := by decide +kernel
theorem dk_178 : mc_178.all (fun e => decide (decode cX5_back e.1 = .ok (e.2.1, e.2.2.1))) = true := by decide +kernel
theorem dk_179 : mc_179.all (fun e => decide (decode cX5_sheet e.1 = .ok (e.2.1, e.2.2.1))) = true := by decide +kernel
theorem dk_180 : mc_180.all (fun e => decide (decode cX5_lay e.1 = .ok (e.2.1, e.2.2.1))) = true := by decide +kernel
theorem dk_181 : mc_181.all (fun e => decide (decode cX5_read e.1 = .ok (e.2.1, e.2.2.1))) = true := by decide +kernel
theorem dk_182 : mc_182.all (fun e => decide (decode cX5_torn e.1 = .ok (e.2.1, e.2.2.1))) = true := by decide +kernel
theorem dk_183 : mc_183.all (fun e => decide (decode cX5_count e.1 = .ok (e.2.1, e.2.2.1))) = true := by decide +kernel
end Q05j
