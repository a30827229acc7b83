def b_L_law_18 (N : Nat) (Q : Int32 → kS → Prop) (L : Nat) (xs : Nat → Int32) (K : Int32 → kS → Prop) (x3 : Int32) (σ : kS) : Prop :=
  if ((Int32.ofNat L) - 6) < x3 then (Q 1 σ) else (vp_in x3 L ∧ (∀ w_2 : Int32, w_2 = (xs x3.toNatClampNeg) &&& 63 → (if w_2 = 0 then (vp_in (x3 + 1) L ∧ (vp_in (x3 + 2) L ∧ (vp_in (x3 + 3) L ∧ (w_X6_row N σ (xs (x3 + 1).toNatClampNeg) (xs (x3 + 2).toNatClampNeg) (xs (x3 + 3).toNatClampNeg) (fun (r_7 : Int32) (σ_6 : kS) => vp_in (x3 + 1) L ∧ (vp_in (x3 + 2) L ∧ (vp_in (x3 + 3) L ∧ (w_X7_row N σ_6 (xs (x3 + 1).toNatClampNeg) (xs (x3 + 2).toNatClampNeg) (xs (x3 + 3).toNatClampNeg) (fun (r_12 : Int32) (σ_11 : kS) => if r_7 = r_12 then (∀ x3_13 : Int32, x3_13 = x3 + 6 → (K x3_13 σ_11)) else (Q 0 σ_11)))))))))) else (if w_2 = 1 then (vp_in (x3 + 1) L ∧ (vp_in (x3 + 2) L ∧ (vp_in (x3 + 3) L ∧ (w_X6_set N σ (xs (x3 + 1).toNatClampNeg) (xs (x3 + 2).toNatClampNeg) (xs (x3 + 3).toNatClampNeg) (fun (r_19 : Int32) (σ_18 : kS) => vp_in (x3 + 1) L ∧ (vp_in (x3 + 2) L ∧ (vp_in (x3 + 3) L ∧ (w_X7_set N σ_18 (xs (x3 + 1).toNatClampNeg) (xs (x3 + 2).toNatClampNeg) (xs (x3 + 3).toNatClampNeg) (fun (r_24 : Int32) (σ_23 : kS) => if r_19 = r_24 then (∀ x3_25 : Int32, x3_25 = x3 + 6 → (K x3_25 σ_23)) else (Q 0 σ_23)))))))))) else (if w_2 = 2 then (vp_in (x3 + 1) L ∧ (vp_in (x3 + 2) L ∧ (vp_in (x3 + 3) L ∧ (vp_in (x3 + 4) L ∧ (vp_in (x3 + 5) L ∧ (w_X6_copy N σ (xs (x3 + 1).toNatClampNeg) (xs (x3 + 2).toNatClampNeg) (xs (x3 + 3).toNatClampNeg) (xs (x3 + 4).toNatClampNeg) (xs (x3 + 5).toNatClampNeg) (fun (r_33 : Int32) (σ_32 : kS) => vp_in (x3 + 1) L ∧ (vp_in (x3 + 2) L ∧ (vp_in (x3 + 3) L ∧ (vp_in (x3 + 4) L ∧ (vp_in (x3 + 5) L ∧ (w_X7_copy N σ_32 (xs (x3 + 1).toNatClampNeg) (xs (x3 + 2).toNatClampNeg) (xs (x3 + 3).toNatClampNeg) (xs (x3 + 4).toNatClampNeg) (xs (x3 + 5).toNatClampNeg) (fun (r_40 : Int32) (σ_39 : kS) => if r_33 = r_40 then (∀ x3_41 : Int32, x3_41 = x3 + 6 → (K x3_41 σ_39)) else (Q 0 σ_39)))))))))))))) else (if w_2 = 3 then (vp_in (x3 + 1) L ∧ (w_X6_drop N σ (xs (x3 + 1).toNatClampNeg) (fun (r_45 : Int32) (σ_44 : kS) => vp_in (x3 + 1) L ∧ (w_X7_drop N σ_44 (xs (x3 + 1).toNatClampNeg) (fun (r_48 : Int32) (σ_47 : kS) => if r_45 = r_48 then (∀ x3_49 : Int32, x3_49 = x3 + 6 → (K x3_49 σ_47)) else (Q 0 σ_47)))))) else (if w_2 = 4 then (vp_in (x3 + 1) L ∧ (w_X6_feed N σ (xs (x3 + 1).toNatClampNeg) (fun (r_53 : Int32) (σ_52 : kS) => vp_in (x3 + 1) L ∧ (w_X7_feed N σ_52 (xs (x3 + 1).toNatClampNeg) (fun (r_56 : Int32) (σ_55 : kS) => if r_53 = r_56 then (∀ x3_57 : Int32, x3_57 = x3 + 6 → (K x3_57 σ_55)) else (Q 0 σ_55)))))) else (if w_2 = 5 then (w_X6_hall N σ (fun (r_60 : Int32) (σ_59 : kS) => w_X7_hall N σ_59 (fun (r_62 : Int32) (σ_61 : kS) => if r_60 = r_62 then (∀ x3_63 : Int32, x3_63 = x3 + 6 → (K x3_63 σ_61)) else (Q 0 σ_61)))) else (if w_2 = 6 then (w_X6_fault N σ (fun (r_66 : Int32) (σ_65 : kS) => w_X7_fault N σ_65 (fun (r_68 : Int32) (σ_67 : kS) => if r_66 = r_68 then (∀ x3_69 : Int32, x3_69 = x3 + 6 → (K x3_69 σ_67)) else (Q 0 σ_67)))) else (if w_2 = 7 then (w_X6_undo N σ (fun (r_72 : Int32) (σ_71 : kS) => w_X7_undo N σ_71 (fun (r_74 : Int32) (σ_73 : kS) => if r_72 = r_74 then (∀ x3_75 : Int32, x3_75 = x3 + 6 → (K x3_75 σ_73)) else (Q 0 σ_73)))) else (if w_2 = 8 then (vp_in (x3 + 1) L ∧ (w_X6_nights N σ (xs (x3 + 1).toNatClampNeg) (fun (r_79 : Int32) (σ_78 : kS) => vp_in (x3 + 1) L ∧ (w_X7_nights N σ_78 (xs (x3 + 1).toNatClampNeg) (fun (r_82 : Int32) (σ_81 : kS) => if r_79 = r_82 then (∀ x3_83 : Int32, x3_83 = x3 + 6 → (K x3_83 σ_81)) else (Q 0 σ_81)))))) else (if w_2 = 9 then (vp_in (x3 + 1) L ∧ (w_X6_thunder N σ (xs (x3 + 1).toNatClampNeg) (fun (r_87 : Int32) (σ_86 : kS) => vp_in (x3 + 1) L ∧ (w_X7_thunder N σ_86 (xs (x3 + 1).toNatClampNeg) (fun (r_90 : Int32) (σ_89 : kS) => if r_87 = r_90 then (∀ x3_91 : Int32, x3_91 = x3 + 6 → (K x3_91 σ_89)) else (Q 0 σ_89)))))) else (if w_2 = 10 then (w_X6_tune N σ (fun (r_94 : Int32) (σ_93 : kS) => w_X7_tune N σ_93 (fun (r_96 : Int32) (σ_95 : kS) => if r_94 = r_96 then (∀ x3_97 : Int32, x3_97 = x3 + 6 → (K x3_97 σ_95)) else (Q 0 σ_95)))) else (if w_2 = 11 then (vp_in (x3 + 1) L ∧ (w_X6_learn N σ (xs (x3 + 1).toNatClampNeg) (fun (r_101 : Int32) (σ_100 : kS) => vp_in (x3 + 1) L ∧ (w_X7_learn N σ_100 (xs (x3 + 1).toNatClampNeg) (fun (r_104 : Int32) (σ_103 : kS) => if r_101 = r_104 then (∀ x3_105 : Int32, x3_105 = x3 + 6 → (K x3_105 σ_103)) else (Q 0 σ_103)))))) else (if w_2 = 12 then (vp_in (x3 + 1) L ∧ (vp_in (x3 + 2) L ∧ (w_X6_piece N σ (xs (x3 + 1).toNatClampNeg) (xs (x3 + 2).toNatClampNeg) (fun (r_110 : Int32) (σ_109 : kS) => vp_in (x3 + 1) L ∧ (vp_in (x3 + 2) L ∧ (w_X7_piece N σ_109 (xs (x3 + 1).toNatClampNeg) (xs (x3 + 2).toNatClampNeg) (fun (r_114 : Int32) (σ_113 : kS) => if r_110 = r_114 then (∀ x3_115 : Int32, x3_115 = x3 + 6 → (K x3_115 σ_113)) else (Q 0 σ_113)))))))) else (if w_2 = 13 then (vp_in (x3 + 1) L ∧ (vp_in (x3 + 2) L ∧ (w_X6_pupil N σ (xs (x3 + 1).toNatClampNeg) (xs (x3 + 2).toNatClampNeg) (fun (r_120 : Int32) (σ_119 : kS) => vp_in (x3 + 1) L ∧ (vp_in (x3 + 2) L ∧ (w_X7_pupil N σ_119 (xs (x3 + 1).toNatClampNeg) (xs (x3 + 2).toNatClampNeg) (fun (r_124 : Int32) (σ_123 : kS) => if r_120 = r_124 then (∀ x3_125 : Int32, x3_125 = x3 + 6 → (K x3_125 σ_123)) else (Q 0 σ_123)))))))) else (if w_2 = 14 then (vp_in (x3 + 1) L ∧ (vp_in (x3 + 2) L ∧ (vp_in (x3 + 3) L ∧ (w_X6_plays N σ (xs (x3 + 1).toNatClampNeg) (xs (x3 + 2).toNatClampNeg) (xs (x3 + 3).toNatClampNeg) (fun (r_131 : Int32) (σ_130 : kS) => vp_in (x3 + 1) L ∧ (vp_in (x3 + 2) L ∧ (vp_in (x3 + 3) L ∧ (w_X7_plays N σ_130 (xs (x3 + 1).toNatClampNeg) (xs (x3 + 2).toNatClampNeg) (xs (x3 + 3).toNatClampNeg) (fun (r_136 : Int32) (σ_135 : kS) => if r_131 = r_136 then (∀ x3_137 : Int32, x3_137 = x3 + 6 → (K x3_137 σ_135)) else (Q 0 σ_135)))))))))) else (if w_2 = 15 then (vp_in (x3 + 1) L ∧ (vp_in (x3 + 2) L ∧ (vp_in (x3 + 3) L ∧ (w_X6_heard N σ (xs (x3 + 1).toNatClampNeg) (xs (x3 + 2).toNatClampNeg) (xs (x3 + 3).toNatClampNeg) (fun (r_143 : Int32) (σ_142 : kS) => vp_in (x3 + 1) L ∧ (vp_in (x3 + 2) L ∧ (vp_in (x3 + 3) L ∧ (w_X7_heard N σ_142 (xs (x3 + 1).toNatClampNeg) (xs (x3 + 2).toNatClampNeg) (xs (x3 + 3).toNatClampNeg) (fun (r_148 : Int32) (σ_147 : kS) => if r_143 = r_148 then (∀ x3_149 : Int32, x3_149 = x3 + 6 → (K x3_149 σ_147)) else (Q 0 σ_147)))))))))) else (if w_2 = 16 then (vp_in (x3 + 1) L ∧ (w_X6_strike N σ (xs (x3 + 1).toNatClampNeg) (fun (r_153 : Int32) (σ_152 : kS) => vp_in (x3 + 1) L ∧ (w_X7_strike N σ_152 (xs (x3 + 1).toNatClampNeg) (fun (r_156 : Int32) (σ_155 : kS) => if r_153 = r_156 then (∀ x3_157 : Int32, x3_157 = x3 + 6 → (K x3_157 σ_155)) else (Q 0 σ_155)))))) else (if w_2 = 17 then (vp_in (x3 + 1) L ∧ (w_X6_soon N σ (xs (x3 + 1).toNatClampNeg) (fun (r_161 : Int32) (σ_160 : kS) => vp_in (x3 + 1) L ∧ (w_X7_soon N σ_160 (xs (x3 + 1).toNatClampNeg) (fun (r_164 : Int32) (σ_163 : kS) => if r_161 = r_164 then (∀ x3_165 : Int32, x3_165 = x3 + 6 → (K x3_165 σ_163)) else (Q 0 σ_163)))))) else (if w_2 = 18 then (vp_in (x3 + 1) L ∧ (vp_in (x3 + 2) L ∧ (w_X6_together N σ (xs (x3 + 1).toNatClampNeg) (xs (x3 + 2).toNatClampNeg) (fun (r_170 : Int32) (σ_169 : kS) => vp_in (x3 + 1) L ∧ (vp_in (x3 + 2) L ∧ (w_X7_together N σ_169 (xs (x3 + 1).toNatClampNeg) (xs (x3 + 2).toNatClampNeg) (fun (r_174 : Int32) (σ_173 : kS) => if r_170 = r_174 then (∀ x3_175 : Int32, x3_175 = x3 + 6 → (K x3_175 σ_173)) else (Q 0 σ_173)))))))) else (if w_2 = 19 then (w_X6_itself N σ (fun (r_178 : Int32) (σ_177 : kS) => w_X7_itself N σ_177 (fun (r_180 : Int32) (σ_179 : kS) => if r_178 = r_180 then (∀ x3_181 : Int32, x3_181 = x3 + 6 → (K x3_181 σ_179)) else (Q 0 σ_179)))) else (if w_2 = 20 then (vp_in (x3 + 1) L ∧ (vp_in (x3 + 2) L ∧ (w_X6_nightsOf N σ (xs (x3 + 1).toNatClampNeg) (xs (x3 + 2).toNatClampNeg) (fun (r_186 : Int32) (σ_185 : kS) => vp_in (x3 + 1) L ∧ (vp_in (x3 + 2) L ∧ (w_X7_nightsOf N σ_185 (xs (x3 + 1).toNatClampNeg) (xs (x3 + 2).toNatClampNeg) (fun (r_190 : Int32) (σ_189 : kS) => if r_186 = r_190 then (∀ x3_191 : Int32, x3_191 = x3 + 6 → (K x3_191 σ_189)) else (Q 0 σ_189)))))))) else (if w_2 = 21 then (vp_in (x3 + 1) L ∧ (vp_in (x3 + 2) L ∧ (vp_in (x3 + 3) L ∧ (vp_in (x3 + 4) L ∧ (w_X6_struck N σ (xs (x3 + 1).toNatClampNeg) (xs (x3 + 2).toNatClampNeg) (xs (x3 + 3).toNatClampNeg) (xs (x3 + 4).toNatClampNeg) (fun (r_198 : Int32) (σ_197 : kS) => vp_in (x3 + 1) L ∧ (vp_in (x3 + 2) L ∧ (vp_in (x3 + 3) L ∧ (vp_in (x3 + 4) L ∧ (w_X7_struck N σ_197 (xs (x3 + 1).toNatClampNeg) (xs (x3 + 2).toNatClampNeg) (xs (x3 + 3).toNatClampNeg) (xs (x3 + 4).toNatClampNeg) (fun (r_204 : Int32) (σ_203 : kS) => if r_198 = r_204 then (∀ x3_205 : Int32, x3_205 = x3 + 6 → (K x3_205 σ_203)) else (Q 0 σ_203)))))))))))) else (if w_2 = 22 then (vp_in (x3 + 1) L ∧ (vp_in (x3 + 2) L ∧ (w_X6_lessons N σ (xs (x3 + 1).toNatClampNeg) (xs (x3 + 2).toNatClampNeg) (fun (r_210 : Int32) (σ_209 : kS) => vp_in (x3 + 1) L ∧ (vp_in (x3 + 2) L ∧ (w_X7_lessons N σ_209 (xs (x3 + 1).toNatClampNeg) (xs (x3 + 2).toNatClampNeg) (fun (r_214 : Int32) (σ_213 : kS) => if r_210 = r_214 then (∀ x3_215 : Int32, x3_215 = x3 + 6 → (K x3_215 σ_213)) else (Q 0 σ_213)))))))) else (if w_2 = 23 then (vp_in (x3 + 1) L ∧ (vp_in (x3 + 2) L ∧ (w_X6_programme N σ (xs (x3 + 1).toNatClampNeg) (xs (x3 + 2).toNatClampNeg) (fun (r_220 : Int32) (σ_219 : kS) => vp_in (x3 + 1) L ∧ (vp_in (x3 + 2) L ∧ (w_X7_programme N σ_219 (xs (x3 + 1).toNatClampNeg) (xs (x3 + 2).toNatClampNeg) (fun (r_224 : Int32) (σ_223 : kS) => if r_220 = r_224 then (∀ x3_225 : Int32, x3_225 = x3 + 6 → (K x3_225 σ_223)) else (Q 0 σ_223)))))))) else (if w_2 = 24 then (vp_in (x3 + 1) L ∧ (w_X6_chords N σ (xs (x3 + 1).toNatClampNeg) (fun (r_229 : Int32) (σ_228 : kS) => vp_in (x3 + 1) L ∧ (w_X7_chords N σ_228 (xs (x3 + 1).toNatClampNeg) (fun (r_232 : Int32) (σ_231 : kS) => if r_229 = r_232 then (∀ x3_233 : Int32, x3_233 = x3 + 6 → (K x3_233 σ_231)) else (Q 0 σ_231)))))) else (if w_2 = 25 then (vp_in (x3 + 1) L ∧ (vp_in (x3 + 2) L ∧ (vp_in (x3 + 3) L ∧ (vp_in (x3 + 4) L ∧ (w_X6_who N σ (xs (x3 + 1).toNatClampNeg) (xs (x3 + 2).toNatClampNeg) (xs (x3 + 3).toNatClampNeg) (xs (x3 + 4).toNatClampNeg) (fun (r_240 : Int32) (σ_239 : kS) => vp_in (x3 + 1) L ∧ (vp_in (x3 + 2) L ∧ (vp_in (x3 + 3) L ∧ (vp_in (x3 + 4) L ∧ (w_X7_who N σ_239 (xs (x3 + 1).toNatClampNeg) (xs (x3 + 2).toNatClampNeg) (xs (x3 + 3).toNatClampNeg) (xs (x3 + 4).toNatClampNeg) (fun (r_246 : Int32) (σ_245 : kS) => if r_240 = r_246 then (∀ x3_247 : Int32, x3_247 = x3 + 6 → (K x3_247 σ_245)) else (Q 0 σ_245)))))))))))) else (if w_2 = 26 then (vp_in (x3 + 1) L ∧ (vp_in (x3 + 2) L ∧ (w_X6_tunings N σ (xs (x3 + 1).toNatClampNeg) (xs (x3 + 2).toNatClampNeg) (fun (r_252 : Int32) (σ_251 : kS) => vp_in (x3 + 1) L ∧ (vp_in (x3 + 2) L ∧ (w_X7_tunings N σ_251 (xs (x3 + 1).toNatClampNeg) (xs (x3 + 2).toNatClampNeg) (fun (r_256 : Int32) (σ_255 : kS) => if r_252 = r_256 then (∀ x3_257 : Int32, x3_257 = x3 + 6 → (K x3_257 σ_255)) else (Q 0 σ_255)))))))) else (if w_2 = 27 then (vp_in (x3 + 1) L ∧ (vp_in (x3 + 2) L ∧ (w_X6_other N σ (xs (x3 + 1).toNatClampNeg) (xs (x3 + 2).toNatClampNeg) (fun (r_262 : Int32) (σ_261 : kS) => vp_in (x3 + 1) L ∧ (vp_in (x3 + 2) L ∧ (w_X7_other N σ_261 (xs (x3 + 1).toNatClampNeg) (xs (x3 + 2).toNatClampNeg) (fun (r_266 : Int32) (σ_265 : kS) => if r_262 = r_266 then (∀ x3_267 : Int32, x3_267 = x3 + 6 → (K x3_267 σ_265)) else (Q 0 σ_265)))))))) else (if w_2 = 28 then (vp_in (x3 + 1) L ∧ (vp_in (x3 + 2) L ∧ (vp_in (x3 + 3) L ∧ (vp_in (x3 + 4) L ∧ (w_X6_thunderOdds N σ (xs (x3 + 1).toNatClampNeg) (xs (x3 + 2).toNatClampNeg) (xs (x3 + 3).toNatClampNeg) (xs (x3 + 4).toNatClampNeg) (fun (r_274 : Int64) (σ_273 : kS) => vp_in (x3 + 1) L ∧ (vp_in (x3 + 2) L ∧ (vp_in (x3 + 3) L ∧ (vp_in (x3 + 4) L ∧ (w_X7_thunderOdds N σ_273 (xs (x3 + 1).toNatClampNeg) (xs (x3 + 2).toNatClampNeg) (xs (x3 + 3).toNatClampNeg) (xs (x3 + 4).toNatClampNeg) (fun (r_280 : Int64) (σ_279 : kS) => if (lg_cmp r_274 r_280) = 0 then (∀ x3_281 : Int32, x3_281 = x3 + 6 → (K x3_281 σ_279)) else (Q 0 σ_279)))))))))))) else (if w_2 = 29 then (vp_in (x3 + 1) L ∧ (vp_in (x3 + 2) L ∧ (vp_in (x3 + 3) L ∧ (w_X6_drawn N σ (xs (x3 + 1).toNatClampNeg) (xs (x3 + 2).toNatClampNeg) (xs (x3 + 3).toNatClampNeg) (fun (r_287 : Int32) (σ_286 : kS) => vp_in (x3 + 1) L ∧ (vp_in (x3 + 2) L ∧ (vp_in (x3 + 3) L ∧ (w_X7_drawn N σ_286 (xs (x3 + 1).toNatClampNeg) (xs (x3 + 2).toNatClampNeg) (xs (x3 + 3).toNatClampNeg) (fun (r_292 : Int32) (σ_291 : kS) => if r_287 = r_292 then (∀ x3_293 : Int32, x3_293 = x3 + 6 → (K x3_293 σ_291)) else (Q 0 σ_291)))))))))) else (if w_2 = 30 then (vp_in (x3 + 1) L ∧ (w_X6_image N σ (xs (x3 + 1).toNatClampNeg) (fun (r_297 : Int32) (σ_296 : kS) => vp_in (x3 + 1) L ∧ (w_X7_image N σ_296 (xs (x3 + 1).toNatClampNeg) (fun (r_300 : Int32) (σ_299 : kS) => if r_297 = r_300 then (∀ x3_301 : Int32, x3_301 = x3 + 6 → (K x3_301 σ_299)) else (Q 0 σ_299)))))) else (if w_2 = 31 then (vp_in (x3 + 1) L ∧ (w_X6_restore N σ (xs (x3 + 1).toNatClampNeg) (fun (r_305 : Int32) (σ_304 : kS) => vp_in (x3 + 1) L ∧ (w_X7_restore N σ_304 (xs (x3 + 1).toNatClampNeg) (fun (r_308 : Int32) (σ_307 : kS) => if r_305 = r_308 then (∀ x3_309 : Int32, x3_309 = x3 + 6 → (K x3_309 σ_307)) else (Q 0 σ_307)))))) else (if w_2 = 32 then (vp_in (x3 + 1) L ∧ (w_X6_kind N σ (xs (x3 + 1).toNatClampNeg) (fun (r_313 : Int32) (σ_312 : kS) => vp_in (x3 + 1) L ∧ (w_X7_kind N σ_312 (xs (x3 + 1).toNatClampNeg) (fun (r_316 : Int32) (σ_315 : kS) => if r_313 = r_316 then (∀ x3_317 : Int32, x3_317 = x3 + 6 → (K x3_317 σ_315)) else (Q 0 σ_315)))))) else (if w_2 = 33 then (vp_in (x3 + 1) L ∧ (vp_in (x3 + 2) L ∧ (w_X6_as N σ (xs (x3 + 1).toNatClampNeg) (xs (x3 + 2).toNatClampNeg) (fun (r_322 : Int32) (σ_321 : kS) => vp_in (x3 + 1) L ∧ (vp_in (x3 + 2) L ∧ (w_X7_as N σ_321 (xs (x3 + 1).toNatClampNeg) (xs (x3 + 2).toNatClampNeg) (fun (r_326 : Int32) (σ_325 : kS) => if r_322 = r_326 then (∀ x3_327 : Int32, x3_327 = x3 + 6 → (K x3_327 σ_325)) else (Q 0 σ_325)))))))) else (if w_2 = 34 then (vp_in (x3 + 1) L ∧ (vp_in (x3 + 2) L ∧ (w_X6_ask N σ (xs (x3 + 1).toNatClampNeg) (xs (x3 + 2).toNatClampNeg) (fun (r_332 : Int32) (σ_331 : kS) => vp_in (x3 + 1) L ∧ (vp_in (x3 + 2) L ∧ (w_X7_ask N σ_331 (xs (x3 + 1).toNatClampNeg) (xs (x3 + 2).toNatClampNeg) (fun (r_336 : Int32) (σ_335 : kS) => if r_332 = r_336 then (∀ x3_337 : Int32, x3_337 = x3 + 6 → (K x3_337 σ_335)) else (Q 0 σ_335)))))))) else (if w_2 = 35 then (vp_in (x3 + 1) L ∧ (w_X6_trace N σ (xs (x3 + 1).toNatClampNeg) (fun (r_341 : Int32) (σ_340 : kS) => vp_in (x3 + 1) L ∧ (w_X7_trace N σ_340 (xs (x3 + 1).toNatClampNeg) (fun (r_344 : Int32) (σ_343 : kS) => if r_341 = r_344 then (∀ x3_345 : Int32, x3_345 = x3 + 6 → (K x3_345 σ_343)) else (Q 0 σ_343)))))) else (if w_2 = 36 then (vp_in (x3 + 1) L ∧ (w_X6_count N σ (xs (x3 + 1).toNatClampNeg) (fun (r_349 : Int32) (σ_348 : kS) => vp_in (x3 + 1) L ∧ (w_X7_count N σ_348 (xs (x3 + 1).toNatClampNeg) (fun (r_352 : Int32) (σ_351 : kS) => if r_349 = r_352 then (∀ x3_353 : Int32, x3_353 = x3 + 6 → (K x3_353 σ_351)) else (Q 0 σ_351)))))) else (if w_2 = 37 then (w_X6_status N σ (fun (r_356 : Int32) (σ_355 : kS) => w_X7_status N σ_355 (fun (r_358 : Int32) (σ_357 : kS) => if r_356 = r_358 then (∀ x3_359 : Int32, x3_359 = x3 + 6 → (K x3_359 σ_357)) else (Q 0 σ_357)))) else (∀ x3_361 : Int32, x3_361 = x3 + 6 → (K x3_361 σ))))))))))))))))))))))))))))))))))))))))))
def l_L_law_18 (N : Nat) (Q : Int32 → kS → Prop) (L : Nat) (xs : Nat → Int32) : Nat → Int32 → kS → Prop
  | 0 => fun _ _ => False
  | n + 1 => b_L_law_18 N Q L xs (l_L_law_18 N Q L xs n)
set_option maxHeartbeats 4000000 in
set_option maxRecDepth 100000 in
theorem sb_L_law_18 {X : kX} {g : kG} {N : Nat} {Q : Int32 → kS → Prop} {b L : Nat} {xs : Nat → Int32} (hs : kSc X b L xs g) (hc : kOk X g RL cL_law 4 (some .boolean) 10) (hZ : kRi X g cL_law Q) {K : Int32 → kS → Prop} (hK : ∀ (x3 : Int32) (τ : kS), K x3 τ → kP X g 4 18 [(0, .ref b), (1, kz g 0), (2, kz g 55), (3, .int x3)] [] τ) {x3 : Int32} {σ : kS} (h : b_L_law_18 N Q L xs K x3 σ) : kP X g 4 18 [(0, .ref b), (1, kz g 0), (2, kz g 55), (3, .int x3)] [] σ := by
  unfold b_L_law_18 at h
  refine r_iload_n hc 3 dL_law_18 rfl ?_
  refine r_aload_n hc 0 dL_law_19 rfl ?_
  refine r_slen hc hs dL_law_20 ?_
  refine r_bipush (v := 6) hc dL_law_21 rfl ?_
  refine r_isub hc dL_law_23 ?_
  refine r_ic_gt hc 1351 dL_law_24 (by decide) (fun q => ?_) (fun q => ?_)
  · have h := kif_t h q
    refine r_iconst (v := 1) hc dL_law_1351 rfl ?_
    exact r_iret (ls0 := []) hZ dL_law_1352 h
  · have h := kif_f h q
    refine r_aload_n hc 0 dL_law_27 rfl ?_
    refine r_iload_n hc 3 dL_law_28 rfl ?_
    obtain ⟨hi_1, h⟩ := h
    refine r_sld hc hs hi_1 dL_law_29 ?_
    refine r_bipush (v := 63) hc dL_law_30 rfl ?_
    refine r_iand hc dL_law_32 ?_
    refine r_nmI (fun w_2 ew_2 => ?_)
    have h := h w_2 ew_2
    by_cases q_14 : w_2 = 0
    · have h := kif_t h q_14
      refine r_tabIn hc 200 dL_law_33 (by rw [q_14]; decide) (by rw [q_14]; decide) (by rw [q_14] <;> rfl) (by decide) ?_
      refine r_aload_n hc 1 dL_law_200 rfl ?_
      refine r_aload_n hc 0 dL_law_201 rfl ?_
      refine r_iload_n hc 3 dL_law_202 rfl ?_
      refine r_iconst (v := 1) hc dL_law_203 rfl ?_
      refine r_iadd hc dL_law_204 ?_
      obtain ⟨hi_3, h⟩ := h
      refine r_sld hc hs hi_3 dL_law_205 ?_
      refine r_aload_n hc 0 dL_law_206 rfl ?_
      refine r_iload_n hc 3 dL_law_207 rfl ?_
      refine r_iconst (v := 2) hc dL_law_208 rfl ?_
      refine r_iadd hc dL_law_209 ?_
      obtain ⟨hi_4, h⟩ := h
      refine r_sld hc hs hi_4 dL_law_210 ?_
      refine r_aload_n hc 0 dL_law_211 rfl ?_
      refine r_iload_n hc 3 dL_law_212 rfl ?_
      refine r_iconst (v := 3) hc dL_law_213 rfl ?_
      refine r_iadd hc dL_law_214 ?_
      obtain ⟨hi_5, h⟩ := h
      refine r_sld hc hs hi_5 dL_law_215 ?_
      refine r_callVi (d := 2) hc (m_X6_row h) cw_X6_row wi_X6_row ws_X6_row lm_L_13 (by decide) (by decide) rv_X6 rfl rfl (Nat.le_of_ble_eq_true rfl) dL_law_216 (fun r_7 σ_6 h => ?_)
      refine r_aload_n hc 2 dL_law_219 rfl ?_
      refine r_aload_n hc 0 dL_law_220 rfl ?_
      refine r_iload_n hc 3 dL_law_221 rfl ?_
      refine r_iconst (v := 1) hc dL_law_222 rfl ?_
      refine r_iadd hc dL_law_223 ?_
      obtain ⟨hi_8, h⟩ := h
      refine r_sld hc hs hi_8 dL_law_224 ?_
      refine r_aload_n hc 0 dL_law_225 rfl ?_
      refine r_iload_n hc 3 dL_law_226 rfl ?_
      refine r_iconst (v := 2) hc dL_law_227 rfl ?_
      refine r_iadd hc dL_law_228 ?_
      obtain ⟨hi_9, h⟩ := h
      refine r_sld hc hs hi_9 dL_law_229 ?_
      refine r_aload_n hc 0 dL_law_230 rfl ?_
      refine r_iload_n hc 3 dL_law_231 rfl ?_
      refine r_iconst (v := 3) hc dL_law_232 rfl ?_
      refine r_iadd hc dL_law_233 ?_
      obtain ⟨hi_10, h⟩ := h
      refine r_sld hc hs hi_10 dL_law_234 ?_
      refine r_callVi (d := 2) hc (m_X7_row h) cw_X7_row wi_X7_row ws_X7_row lm_L_17 (by decide) (by decide) rv_X7 rfl rfl (Nat.le_of_ble_eq_true rfl) dL_law_235 (fun r_12 σ_11 h => ?_)
      refine r_ic_eq hc 1345 dL_law_238 (by decide) (fun q => ?_) (fun q => ?_)
      · have h := kif_t h q
        obtain ⟨x3_13, ex3_13⟩ : ∃ v : Int32, v = x3 + 6 := ⟨_, rfl⟩
        have h := h x3_13 ex3_13
        refine r_iinc (v := x3_13) hc 3 [(3, .int x3_13), (0, .ref b), (1, kz g 0), (2, kz g 55)] dL_law_1345 rfl (by rw [ex3_13]; rfl) (by decide) rfl ?_
        refine r_goto hc 18 dL_law_1348 (by decide) ?_
        refine r_sub [1, 2, 3, 0] rfl ?_
        exact hK _ _ h
      · have h := kif_f h q
        refine r_iconst (v := 0) hc dL_law_241 rfl ?_
        exact r_iret (ls0 := []) hZ dL_law_242 h
    have h := kif_f h q_14
    have zq_14 : w_2.toInt ≠ 0 := ktne q_14
    by_cases q_26 : w_2 = 1
    · have h := kif_t h q_26
      refine r_tabIn hc 243 dL_law_33 (by rw [q_26]; decide) (by rw [q_26]; decide) (by rw [q_26] <;> rfl) (by decide) ?_
      refine r_aload_n hc 1 dL_law_243 rfl ?_
      refine r_aload_n hc 0 dL_law_244 rfl ?_
      refine r_iload_n hc 3 dL_law_245 rfl ?_
      refine r_iconst (v := 1) hc dL_law_246 rfl ?_
      refine r_iadd hc dL_law_247 ?_
      obtain ⟨hi_15, h⟩ := h
      refine r_sld hc hs hi_15 dL_law_248 ?_
      refine r_aload_n hc 0 dL_law_249 rfl ?_
      refine r_iload_n hc 3 dL_law_250 rfl ?_
      refine r_iconst (v := 2) hc dL_law_251 rfl ?_
      refine r_iadd hc dL_law_252 ?_
      obtain ⟨hi_16, h⟩ := h
      refine r_sld hc hs hi_16 dL_law_253 ?_
      refine r_aload_n hc 0 dL_law_254 rfl ?_
      refine r_iload_n hc 3 dL_law_255 rfl ?_
      refine r_iconst (v := 3) hc dL_law_256 rfl ?_
      refine r_iadd hc dL_law_257 ?_
      obtain ⟨hi_17, h⟩ := h
      refine r_sld hc hs hi_17 dL_law_258 ?_
      refine r_callVi (d := 2) hc (m_X6_set h) cw_X6_set wi_X6_set ws_X6_set lm_L_18 (by decide) (by decide) rv_X6 rfl rfl (Nat.le_of_ble_eq_true rfl) dL_law_259 (fun r_19 σ_18 h => ?_)
      refine r_aload_n hc 2 dL_law_262 rfl ?_
      refine r_aload_n hc 0 dL_law_263 rfl ?_
      refine r_iload_n hc 3 dL_law_264 rfl ?_
      refine r_iconst (v := 1) hc dL_law_265 rfl ?_
      refine r_iadd hc dL_law_266 ?_
      obtain ⟨hi_20, h⟩ := h
      refine r_sld hc hs hi_20 dL_law_267 ?_
      refine r_aload_n hc 0 dL_law_268 rfl ?_
      refine r_iload_n hc 3 dL_law_269 rfl ?_
      refine r_iconst (v := 2) hc dL_law_270 rfl ?_
      refine r_iadd hc dL_law_271 ?_
      obtain ⟨hi_21, h⟩ := h
      refine r_sld hc hs hi_21 dL_law_272 ?_
      refine r_aload_n hc 0 dL_law_273 rfl ?_
      refine r_iload_n hc 3 dL_law_274 rfl ?_
      refine r_iconst (v := 3) hc dL_law_275 rfl ?_
      refine r_iadd hc dL_law_276 ?_
      obtain ⟨hi_22, h⟩ := h
      refine r_sld hc hs hi_22 dL_law_277 ?_
      refine r_callVi (d := 2) hc (m_X7_set h) cw_X7_set wi_X7_set ws_X7_set lm_L_21 (by decide) (by decide) rv_X7 rfl rfl (Nat.le_of_ble_eq_true rfl) dL_law_278 (fun r_24 σ_23 h => ?_)
      refine r_ic_eq hc 1345 dL_law_281 (by decide) (fun q => ?_) (fun q => ?_)
      · have h := kif_t h q
        obtain ⟨x3_25, ex3_25⟩ : ∃ v : Int32, v = x3 + 6 := ⟨_, rfl⟩
        have h := h x3_25 ex3_25
        refine r_iinc (v := x3_25) hc 3 [(3, .int x3_25), (0, .ref b), (1, kz g 0), (2, kz g 55)] dL_law_1345 rfl (by rw [ex3_25]; rfl) (by decide) rfl ?_
        refine r_goto hc 18 dL_law_1348 (by decide) ?_
        refine r_sub [1, 2, 3, 0] rfl ?_
        exact hK _ _ h
      · have h := kif_f h q
        refine r_iconst (v := 0) hc dL_law_284 rfl ?_
        exact r_iret (ls0 := []) hZ dL_law_285 h
    have h := kif_f h q_26
    have zq_26 : w_2.toInt ≠ 1 := ktne q_26
    by_cases q_42 : w_2 = 2
    · have h := kif_t h q_42
      refine r_tabIn hc 286 dL_law_33 (by rw [q_42]; decide) (by rw [q_42]; decide) (by rw [q_42] <;> rfl) (by decide) ?_
      refine r_aload_n hc 1 dL_law_286 rfl ?_
      refine r_aload_n hc 0 dL_law_287 rfl ?_
      refine r_iload_n hc 3 dL_law_288 rfl ?_
      refine r_iconst (v := 1) hc dL_law_289 rfl ?_
      refine r_iadd hc dL_law_290 ?_
      obtain ⟨hi_27, h⟩ := h
      refine r_sld hc hs hi_27 dL_law_291 ?_
      refine r_aload_n hc 0 dL_law_292 rfl ?_
      refine r_iload_n hc 3 dL_law_293 rfl ?_
      refine r_iconst (v := 2) hc dL_law_294 rfl ?_
      refine r_iadd hc dL_law_295 ?_
      obtain ⟨hi_28, h⟩ := h
      refine r_sld hc hs hi_28 dL_law_296 ?_
      refine r_aload_n hc 0 dL_law_297 rfl ?_
      refine r_iload_n hc 3 dL_law_298 rfl ?_
      refine r_iconst (v := 3) hc dL_law_299 rfl ?_
      refine r_iadd hc dL_law_300 ?_
      obtain ⟨hi_29, h⟩ := h
      refine r_sld hc hs hi_29 dL_law_301 ?_
      refine r_aload_n hc 0 dL_law_302 rfl ?_
      refine r_iload_n hc 3 dL_law_303 rfl ?_
      refine r_iconst (v := 4) hc dL_law_304 rfl ?_
      refine r_iadd hc dL_law_305 ?_
      obtain ⟨hi_30, h⟩ := h
      refine r_sld hc hs hi_30 dL_law_306 ?_
      refine r_aload_n hc 0 dL_law_307 rfl ?_
      refine r_iload_n hc 3 dL_law_308 rfl ?_
      refine r_iconst (v := 5) hc dL_law_309 rfl ?_
      refine r_iadd hc dL_law_310 ?_
      obtain ⟨hi_31, h⟩ := h
      refine r_sld hc hs hi_31 dL_law_311 ?_
      refine r_callVi (d := 1) hc (m_X6_copy h) cw_X6_copy wi_X6_copy ws_X6_copy lm_L_22 (by decide) (by decide) rv_X6 rfl rfl (Nat.le_of_ble_eq_true rfl) dL_law_312 (fun r_33 σ_32 h => ?_)
      refine r_aload_n hc 2 dL_law_315 rfl ?_
      refine r_aload_n hc 0 dL_law_316 rfl ?_
      refine r_iload_n hc 3 dL_law_317 rfl ?_
      refine r_iconst (v := 1) hc dL_law_318 rfl ?_
      refine r_iadd hc dL_law_319 ?_
      obtain ⟨hi_34, h⟩ := h
      refine r_sld hc hs hi_34 dL_law_320 ?_
      refine r_aload_n hc 0 dL_law_321 rfl ?_
      refine r_iload_n hc 3 dL_law_322 rfl ?_
      refine r_iconst (v := 2) hc dL_law_323 rfl ?_
      refine r_iadd hc dL_law_324 ?_
      obtain ⟨hi_35, h⟩ := h
      refine r_sld hc hs hi_35 dL_law_325 ?_
      refine r_aload_n hc 0 dL_law_326 rfl ?_
      refine r_iload_n hc 3 dL_law_327 rfl ?_
      refine r_iconst (v := 3) hc dL_law_328 rfl ?_
      refine r_iadd hc dL_law_329 ?_
      obtain ⟨hi_36, h⟩ := h
      refine r_sld hc hs hi_36 dL_law_330 ?_
      refine r_aload_n hc 0 dL_law_331 rfl ?_
      refine r_iload_n hc 3 dL_law_332 rfl ?_
      refine r_iconst (v := 4) hc dL_law_333 rfl ?_
      refine r_iadd hc dL_law_334 ?_
      obtain ⟨hi_37, h⟩ := h
      refine r_sld hc hs hi_37 dL_law_335 ?_
      refine r_aload_n hc 0 dL_law_336 rfl ?_
      refine r_iload_n hc 3 dL_law_337 rfl ?_
      refine r_iconst (v := 5) hc dL_law_338 rfl ?_
      refine r_iadd hc dL_law_339 ?_
      obtain ⟨hi_38, h⟩ := h
      refine r_sld hc hs hi_38 dL_law_340 ?_
      refine r_callVi (d := 2) hc (m_X7_copy h) cw_X7_copy wi_X7_copy ws_X7_copy lm_L_26 (by decide) (by decide) rv_X7 rfl rfl (Nat.le_of_ble_eq_true rfl) dL_law_341 (fun r_40 σ_39 h => ?_)
      refine r_ic_eq hc 1345 dL_law_344 (by decide) (fun q => ?_) (fun q => ?_)
      · have h := kif_t h q
        obtain ⟨x3_41, ex3_41⟩ : ∃ v : Int32, v = x3 + 6 := ⟨_, rfl⟩
        have h := h x3_41 ex3_41
        refine r_iinc (v := x3_41) hc 3 [(3, .int x3_41), (0, .ref b), (1, kz g 0), (2, kz g 55)] dL_law_1345 rfl (by rw [ex3_41]; rfl) (by decide) rfl ?_
        refine r_goto hc 18 dL_law_1348 (by decide) ?_
        refine r_sub [1, 2, 3, 0] rfl ?_
        exact hK _ _ h
      · have h := kif_f h q
        refine r_iconst (v := 0) hc dL_law_347 rfl ?_
        exact r_iret (ls0 := []) hZ dL_law_348 h
    have h := kif_f h q_42
    have zq_42 : w_2.toInt ≠ 2 := ktne q_42
    by_cases q_50 : w_2 = 3
    · have h := kif_t h q_50
      refine r_tabIn hc 349 dL_law_33 (by rw [q_50]; decide) (by rw [q_50]; decide) (by rw [q_50] <;> rfl) (by decide) ?_
      refine r_aload_n hc 1 dL_law_349 rfl ?_
      refine r_aload_n hc 0 dL_law_350 rfl ?_
      refine r_iload_n hc 3 dL_law_351 rfl ?_
      refine r_iconst (v := 1) hc dL_law_352 rfl ?_
      refine r_iadd hc dL_law_353 ?_
      obtain ⟨hi_43, h⟩ := h
      refine r_sld hc hs hi_43 dL_law_354 ?_
      refine r_callVi (d := 1) hc (m_X6_drop h) cw_X6_drop wi_X6_drop ws_X6_drop lm_L_27 (by decide) (by decide) rv_X6 rfl rfl (Nat.le_of_ble_eq_true rfl) dL_law_355 (fun r_45 σ_44 h => ?_)
      refine r_aload_n hc 2 dL_law_358 rfl ?_
      refine r_aload_n hc 0 dL_law_359 rfl ?_
      refine r_iload_n hc 3 dL_law_360 rfl ?_
      refine r_iconst (v := 1) hc dL_law_361 rfl ?_
      refine r_iadd hc dL_law_362 ?_
      obtain ⟨hi_46, h⟩ := h
      refine r_sld hc hs hi_46 dL_law_363 ?_
      refine r_callVi (d := 2) hc (m_X7_drop h) cw_X7_drop wi_X7_drop ws_X7_drop lm_L_31 (by decide) (by decide) rv_X7 rfl rfl (Nat.le_of_ble_eq_true rfl) dL_law_364 (fun r_48 σ_47 h => ?_)
      refine r_ic_eq hc 1345 dL_law_367 (by decide) (fun q => ?_) (fun q => ?_)
      · have h := kif_t h q
        obtain ⟨x3_49, ex3_49⟩ : ∃ v : Int32, v = x3 + 6 := ⟨_, rfl⟩
        have h := h x3_49 ex3_49
        refine r_iinc (v := x3_49) hc 3 [(3, .int x3_49), (0, .ref b), (1, kz g 0), (2, kz g 55)] dL_law_1345 rfl (by rw [ex3_49]; rfl) (by decide) rfl ?_
        refine r_goto hc 18 dL_law_1348 (by decide) ?_
        refine r_sub [1, 2, 3, 0] rfl ?_
        exact hK _ _ h
      · have h := kif_f h q
        refine r_iconst (v := 0) hc dL_law_370 rfl ?_
        exact r_iret (ls0 := []) hZ dL_law_371 h
    have h := kif_f h q_50
    have zq_50 : w_2.toInt ≠ 3 := ktne q_50
    by_cases q_58 : w_2 = 4
    · have h := kif_t h q_58
      refine r_tabIn hc 372 dL_law_33 (by rw [q_58]; decide) (by rw [q_58]; decide) (by rw [q_58] <;> rfl) (by decide) ?_
      refine r_aload_n hc 1 dL_law_372 rfl ?_
      refine r_aload_n hc 0 dL_law_373 rfl ?_
      refine r_iload_n hc 3 dL_law_374 rfl ?_
      refine r_iconst (v := 1) hc dL_law_375 rfl ?_
      refine r_iadd hc dL_law_376 ?_
      obtain ⟨hi_51, h⟩ := h
      refine r_sld hc hs hi_51 dL_law_377 ?_
      refine r_callVi (d := 1) hc (m_X6_feed h) cw_X6_feed wi_X6_feed ws_X6_feed lm_L_32 (by decide) (by decide) rv_X6 rfl rfl (Nat.le_of_ble_eq_true rfl) dL_law_378 (fun r_53 σ_52 h => ?_)
      refine r_aload_n hc 2 dL_law_381 rfl ?_
      refine r_aload_n hc 0 dL_law_382 rfl ?_
      refine r_iload_n hc 3 dL_law_383 rfl ?_
      refine r_iconst (v := 1) hc dL_law_384 rfl ?_
      refine r_iadd hc dL_law_385 ?_
      obtain ⟨hi_54, h⟩ := h
      refine r_sld hc hs hi_54 dL_law_386 ?_
      refine r_callVi (d := 1) hc (m_X7_feed h) cw_X7_feed wi_X7_feed ws_X7_feed lm_L_35 (by decide) (by decide) rv_X7 rfl rfl (Nat.le_of_ble_eq_true rfl) dL_law_387 (fun r_56 σ_55 h => ?_)
      refine r_ic_eq hc 1345 dL_law_390 (by decide) (fun q => ?_) (fun q => ?_)
      · have h := kif_t h q
        obtain ⟨x3_57, ex3_57⟩ : ∃ v : Int32, v = x3 + 6 := ⟨_, rfl⟩
        have h := h x3_57 ex3_57
        refine r_iinc (v := x3_57) hc 3 [(3, .int x3_57), (0, .ref b), (1, kz g 0), (2, kz g 55)] dL_law_1345 rfl (by rw [ex3_57]; rfl) (by decide) rfl ?_
        refine r_goto hc 18 dL_law_1348 (by decide) ?_
        refine r_sub [1, 2, 3, 0] rfl ?_
        exact hK _ _ h
      · have h := kif_f h q
        refine r_iconst (v := 0) hc dL_law_393 rfl ?_
        exact r_iret (ls0 := []) hZ dL_law_394 h
    have h := kif_f h q_58
    have zq_58 : w_2.toInt ≠ 4 := ktne q_58
    by_cases q_64 : w_2 = 5
    · have h := kif_t h q_64
      refine r_tabIn hc 395 dL_law_33 (by rw [q_64]; decide) (by rw [q_64]; decide) (by rw [q_64] <;> rfl) (by decide) ?_
      refine r_aload_n hc 1 dL_law_395 rfl ?_
      refine r_callVi (d := 6) hc (m_X6_hall h) cw_X6_hall wi_X6_hall ws_X6_hall lm_L_36 (by decide) (by decide) rv_X6 rfl rfl (Nat.le_of_ble_eq_true rfl) dL_law_396 (fun r_60 σ_59 h => ?_)
      refine r_aload_n hc 2 dL_law_399 rfl ?_
      refine r_callVi (d := 6) hc (m_X7_hall h) cw_X7_hall wi_X7_hall ws_X7_hall lm_L_40 (by decide) (by decide) rv_X7 rfl rfl (Nat.le_of_ble_eq_true rfl) dL_law_400 (fun r_62 σ_61 h => ?_)
      refine r_ic_eq hc 1345 dL_law_403 (by decide) (fun q => ?_) (fun q => ?_)
      · have h := kif_t h q
        obtain ⟨x3_63, ex3_63⟩ : ∃ v : Int32, v = x3 + 6 := ⟨_, rfl⟩
        have h := h x3_63 ex3_63
        refine r_iinc (v := x3_63) hc 3 [(3, .int x3_63), (0, .ref b), (1, kz g 0), (2, kz g 55)] dL_law_1345 rfl (by rw [ex3_63]; rfl) (by decide) rfl ?_
        refine r_goto hc 18 dL_law_1348 (by decide) ?_
        refine r_sub [1, 2, 3, 0] rfl ?_
        exact hK _ _ h
      · have h := kif_f h q
        refine r_iconst (v := 0) hc dL_law_406 rfl ?_
        exact r_iret (ls0 := []) hZ dL_law_407 h
    have h := kif_f h q_64
    have zq_64 : w_2.toInt ≠ 5 := ktne q_64
    by_cases q_70 : w_2 = 6
    · have h := kif_t h q_70
      refine r_tabIn hc 408 dL_law_33 (by rw [q_70]; decide) (by rw [q_70]; decide) (by rw [q_70] <;> rfl) (by decide) ?_
      refine r_aload_n hc 1 dL_law_408 rfl ?_
      refine r_callVi (d := 0) hc (m_X6_fault h) cw_X6_fault wi_X6_fault ws_X6_fault lm_L_41 (by decide) (by decide) rv_X6 rfl rfl (Nat.le_of_ble_eq_true rfl) dL_law_409 (fun r_66 σ_65 h => ?_)
      refine r_aload_n hc 2 dL_law_412 rfl ?_
      refine r_callVi (d := 0) hc (m_X7_fault h) cw_X7_fault wi_X7_fault ws_X7_fault lm_L_44 (by decide) (by decide) rv_X7 rfl rfl (Nat.le_of_ble_eq_true rfl) dL_law_413 (fun r_68 σ_67 h => ?_)
      refine r_ic_eq hc 1345 dL_law_416 (by decide) (fun q => ?_) (fun q => ?_)
      · have h := kif_t h q
        obtain ⟨x3_69, ex3_69⟩ : ∃ v : Int32, v = x3 + 6 := ⟨_, rfl⟩
        have h := h x3_69 ex3_69
        refine r_iinc (v := x3_69) hc 3 [(3, .int x3_69), (0, .ref b), (1, kz g 0), (2, kz g 55)] dL_law_1345 rfl (by rw [ex3_69]; rfl) (by decide) rfl ?_
        refine r_goto hc 18 dL_law_1348 (by decide) ?_
        refine r_sub [1, 2, 3, 0] rfl ?_
        exact hK _ _ h
      · have h := kif_f h q
        refine r_iconst (v := 0) hc dL_law_419 rfl ?_
        exact r_iret (ls0 := []) hZ dL_law_420 h
    have h := kif_f h q_70
    have zq_70 : w_2.toInt ≠ 6 := ktne q_70
    by_cases q_76 : w_2 = 7
    · have h := kif_t h q_76
      refine r_tabIn hc 421 dL_law_33 (by rw [q_76]; decide) (by rw [q_76]; decide) (by rw [q_76] <;> rfl) (by decide) ?_
      refine r_aload_n hc 1 dL_law_421 rfl ?_
      refine r_callVi (d := 1) hc (m_X6_undo h) cw_X6_undo wi_X6_undo ws_X6_undo lm_L_45 (by decide) (by decide) rv_X6 rfl rfl (Nat.le_of_ble_eq_true rfl) dL_law_422 (fun r_72 σ_71 h => ?_)
      refine r_aload_n hc 2 dL_law_425 rfl ?_
      refine r_callVi (d := 0) hc (m_X7_undo h) cw_X7_undo wi_X7_undo ws_X7_undo lm_L_48 (by decide) (by decide) rv_X7 rfl rfl (Nat.le_of_ble_eq_true rfl) dL_law_426 (fun r_74 σ_73 h => ?_)
      refine r_ic_eq hc 1345 dL_law_429 (by decide) (fun q => ?_) (fun q => ?_)
      · have h := kif_t h q
        obtain ⟨x3_75, ex3_75⟩ : ∃ v : Int32, v = x3 + 6 := ⟨_, rfl⟩
        have h := h x3_75 ex3_75
        refine r_iinc (v := x3_75) hc 3 [(3, .int x3_75), (0, .ref b), (1, kz g 0), (2, kz g 55)] dL_law_1345 rfl (by rw [ex3_75]; rfl) (by decide) rfl ?_
        refine r_goto hc 18 dL_law_1348 (by decide) ?_
        refine r_sub [1, 2, 3, 0] rfl ?_
        exact hK _ _ h
      · have h := kif_f h q
        refine r_iconst (v := 0) hc dL_law_432 rfl ?_
        exact r_iret (ls0 := []) hZ dL_law_433 h
    have h := kif_f h q_76
    have zq_76 : w_2.toInt ≠ 7 := ktne q_76
    by_cases q_84 : w_2 = 8
    · have h := kif_t h q_84
      refine r_tabIn hc 434 dL_law_33 (by rw [q_84]; decide) (by rw [q_84]; decide) (by rw [q_84] <;> rfl) (by decide) ?_
      refine r_aload_n hc 1 dL_law_434 rfl ?_
      refine r_aload_n hc 0 dL_law_435 rfl ?_
      refine r_iload_n hc 3 dL_law_436 rfl ?_
      refine r_iconst (v := 1) hc dL_law_437 rfl ?_
      refine r_iadd hc dL_law_438 ?_
      obtain ⟨hi_77, h⟩ := h
      refine r_sld hc hs hi_77 dL_law_439 ?_
      refine r_callVi (d := 2) hc (m_X6_nights h) cw_X6_nights wi_X6_nights ws_X6_nights lm_L_49 (by decide) (by decide) rv_X6 rfl rfl (Nat.le_of_ble_eq_true rfl) dL_law_440 (fun r_79 σ_78 h => ?_)
      refine r_aload_n hc 2 dL_law_443 rfl ?_
      refine r_aload_n hc 0 dL_law_444 rfl ?_
      refine r_iload_n hc 3 dL_law_445 rfl ?_
      refine r_iconst (v := 1) hc dL_law_446 rfl ?_
      refine r_iadd hc dL_law_447 ?_
      obtain ⟨hi_80, h⟩ := h
      refine r_sld hc hs hi_80 dL_law_448 ?_
      refine r_callVi (d := 2) hc (m_X7_nights h) cw_X7_nights wi_X7_nights ws_X7_nights lm_L_52 (by decide) (by decide) rv_X7 rfl rfl (Nat.le_of_ble_eq_true rfl) dL_law_449 (fun r_82 σ_81 h => ?_)
      refine r_ic_eq hc 1345 dL_law_452 (by decide) (fun q => ?_) (fun q => ?_)
      · have h := kif_t h q
        obtain ⟨x3_83, ex3_83⟩ : ∃ v : Int32, v = x3 + 6 := ⟨_, rfl⟩
        have h := h x3_83 ex3_83
        refine r_iinc (v := x3_83) hc 3 [(3, .int x3_83), (0, .ref b), (1, kz g 0), (2, kz g 55)] dL_law_1345 rfl (by rw [ex3_83]; rfl) (by decide) rfl ?_
        refine r_goto hc 18 dL_law_1348 (by decide) ?_
        refine r_sub [1, 2, 3, 0] rfl ?_
        exact hK _ _ h
      · have h := kif_f h q
        refine r_iconst (v := 0) hc dL_law_455 rfl ?_
        exact r_iret (ls0 := []) hZ dL_law_456 h
    have h := kif_f h q_84
    have zq_84 : w_2.toInt ≠ 8 := ktne q_84
    by_cases q_92 : w_2 = 9
    · have h := kif_t h q_92
      refine r_tabIn hc 457 dL_law_33 (by rw [q_92]; decide) (by rw [q_92]; decide) (by rw [q_92] <;> rfl) (by decide) ?_
      refine r_aload_n hc 1 dL_law_457 rfl ?_
      refine r_aload_n hc 0 dL_law_458 rfl ?_
      refine r_iload_n hc 3 dL_law_459 rfl ?_
      refine r_iconst (v := 1) hc dL_law_460 rfl ?_
      refine r_iadd hc dL_law_461 ?_
      obtain ⟨hi_85, h⟩ := h
      refine r_sld hc hs hi_85 dL_law_462 ?_
      refine r_callVi (d := 2) hc (m_X6_thunder h) cw_X6_thunder wi_X6_thunder ws_X6_thunder lm_L_53 (by decide) (by decide) rv_X6 rfl rfl (Nat.le_of_ble_eq_true rfl) dL_law_463 (fun r_87 σ_86 h => ?_)
      refine r_aload_n hc 2 dL_law_466 rfl ?_
      refine r_aload_n hc 0 dL_law_467 rfl ?_
      refine r_iload_n hc 3 dL_law_468 rfl ?_
      refine r_iconst (v := 1) hc dL_law_469 rfl ?_
      refine r_iadd hc dL_law_470 ?_
      obtain ⟨hi_88, h⟩ := h
      refine r_sld hc hs hi_88 dL_law_471 ?_
      refine r_callVi (d := 1) hc (m_X7_thunder h) cw_X7_thunder wi_X7_thunder ws_X7_thunder lm_L_56 (by decide) (by decide) rv_X7 rfl rfl (Nat.le_of_ble_eq_true rfl) dL_law_472 (fun r_90 σ_89 h => ?_)
      refine r_ic_eq hc 1345 dL_law_475 (by decide) (fun q => ?_) (fun q => ?_)
      · have h := kif_t h q
        obtain ⟨x3_91, ex3_91⟩ : ∃ v : Int32, v = x3 + 6 := ⟨_, rfl⟩
        have h := h x3_91 ex3_91
        refine r_iinc (v := x3_91) hc 3 [(3, .int x3_91), (0, .ref b), (1, kz g 0), (2, kz g 55)] dL_law_1345 rfl (by rw [ex3_91]; rfl) (by decide) rfl ?_
        refine r_goto hc 18 dL_law_1348 (by decide) ?_
        refine r_sub [1, 2, 3, 0] rfl ?_
        exact hK _ _ h
      · have h := kif_f h q
        refine r_iconst (v := 0) hc dL_law_478 rfl ?_
        exact r_iret (ls0 := []) hZ dL_law_479 h
    have h := kif_f h q_92
    have zq_92 : w_2.toInt ≠ 9 := ktne q_92
    by_cases q_98 : w_2 = 10
    · have h := kif_t h q_98
      refine r_tabIn hc 480 dL_law_33 (by rw [q_98]; decide) (by rw [q_98]; decide) (by rw [q_98] <;> rfl) (by decide) ?_
      refine r_aload_n hc 1 dL_law_480 rfl ?_
      refine r_callVi (d := 2) hc (m_X6_tune h) cw_X6_tune wi_X6_tune ws_X6_tune lm_L_57 (by decide) (by decide) rv_X6 rfl rfl (Nat.le_of_ble_eq_true rfl) dL_law_481 (fun r_94 σ_93 h => ?_)
      refine r_aload_n hc 2 dL_law_484 rfl ?_
      refine r_callVi (d := 1) hc (m_X7_tune h) cw_X7_tune wi_X7_tune ws_X7_tune lm_L_60 (by decide) (by decide) rv_X7 rfl rfl (Nat.le_of_ble_eq_true rfl) dL_law_485 (fun r_96 σ_95 h => ?_)
      refine r_ic_eq hc 1345 dL_law_488 (by decide) (fun q => ?_) (fun q => ?_)
      · have h := kif_t h q
        obtain ⟨x3_97, ex3_97⟩ : ∃ v : Int32, v = x3 + 6 := ⟨_, rfl⟩
        have h := h x3_97 ex3_97
        refine r_iinc (v := x3_97) hc 3 [(3, .int x3_97), (0, .ref b), (1, kz g 0), (2, kz g 55)] dL_law_1345 rfl (by rw [ex3_97]; rfl) (by decide) rfl ?_
        refine r_goto hc 18 dL_law_1348 (by decide) ?_
        refine r_sub [1, 2, 3, 0] rfl ?_
        exact hK _ _ h
      · have h := kif_f h q
        refine r_iconst (v := 0) hc dL_law_491 rfl ?_
        exact r_iret (ls0 := []) hZ dL_law_492 h
    have h := kif_f h q_98
    have zq_98 : w_2.toInt ≠ 10 := ktne q_98
    by_cases q_106 : w_2 = 11
    · have h := kif_t h q_106
      refine r_tabIn hc 493 dL_law_33 (by rw [q_106]; decide) (by rw [q_106]; decide) (by rw [q_106] <;> rfl) (by decide) ?_
      refine r_aload_n hc 1 dL_law_493 rfl ?_
      refine r_aload_n hc 0 dL_law_494 rfl ?_
      refine r_iload_n hc 3 dL_law_495 rfl ?_
      refine r_iconst (v := 1) hc dL_law_496 rfl ?_
      refine r_iadd hc dL_law_497 ?_
      obtain ⟨hi_99, h⟩ := h
      refine r_sld hc hs hi_99 dL_law_498 ?_
      refine r_callVi (d := 2) hc (m_X6_learn h) cw_X6_learn wi_X6_learn ws_X6_learn lm_L_61 (by decide) (by decide) rv_X6 rfl rfl (Nat.le_of_ble_eq_true rfl) dL_law_499 (fun r_101 σ_100 h => ?_)
      refine r_aload_n hc 2 dL_law_502 rfl ?_
      refine r_aload_n hc 0 dL_law_503 rfl ?_
      refine r_iload_n hc 3 dL_law_504 rfl ?_
      refine r_iconst (v := 1) hc dL_law_505 rfl ?_
      refine r_iadd hc dL_law_506 ?_
      obtain ⟨hi_102, h⟩ := h
      refine r_sld hc hs hi_102 dL_law_507 ?_
      refine r_callVi (d := 2) hc (m_X7_learn h) cw_X7_learn wi_X7_learn ws_X7_learn lm_L_64 (by decide) (by decide) rv_X7 rfl rfl (Nat.le_of_ble_eq_true rfl) dL_law_508 (fun r_104 σ_103 h => ?_)
      refine r_ic_eq hc 1345 dL_law_511 (by decide) (fun q => ?_) (fun q => ?_)
      · have h := kif_t h q
        obtain ⟨x3_105, ex3_105⟩ : ∃ v : Int32, v = x3 + 6 := ⟨_, rfl⟩
        have h := h x3_105 ex3_105
        refine r_iinc (v := x3_105) hc 3 [(3, .int x3_105), (0, .ref b), (1, kz g 0), (2, kz g 55)] dL_law_1345 rfl (by rw [ex3_105]; rfl) (by decide) rfl ?_
        refine r_goto hc 18 dL_law_1348 (by decide) ?_
        refine r_sub [1, 2, 3, 0] rfl ?_
        exact hK _ _ h
      · have h := kif_f h q
        refine r_iconst (v := 0) hc dL_law_514 rfl ?_
        exact r_iret (ls0 := []) hZ dL_law_515 h
    have h := kif_f h q_106
    have zq_106 : w_2.toInt ≠ 11 := ktne q_106
    by_cases q_116 : w_2 = 12
    · have h := kif_t h q_116
      refine r_tabIn hc 516 dL_law_33 (by rw [q_116]; decide) (by rw [q_116]; decide) (by rw [q_116] <;> rfl) (by decide) ?_
      refine r_aload_n hc 1 dL_law_516 rfl ?_
      refine r_aload_n hc 0 dL_law_517 rfl ?_
      refine r_iload_n hc 3 dL_law_518 rfl ?_
      refine r_iconst (v := 1) hc dL_law_519 rfl ?_
      refine r_iadd hc dL_law_520 ?_
      obtain ⟨hi_107, h⟩ := h
      refine r_sld hc hs hi_107 dL_law_521 ?_
      refine r_aload_n hc 0 dL_law_522 rfl ?_
      refine r_iload_n hc 3 dL_law_523 rfl ?_
      refine r_iconst (v := 2) hc dL_law_524 rfl ?_
      refine r_iadd hc dL_law_525 ?_
      obtain ⟨hi_108, h⟩ := h
      refine r_sld hc hs hi_108 dL_law_526 ?_
      refine r_callVi (d := 1) hc (m_X6_piece h) cw_X6_piece wi_X6_piece ws_X6_piece lm_L_65 (by decide) (by decide) rv_X6 rfl rfl (Nat.le_of_ble_eq_true rfl) dL_law_527 (fun r_110 σ_109 h => ?_)
      refine r_aload_n hc 2 dL_law_530 rfl ?_
      refine r_aload_n hc 0 dL_law_531 rfl ?_
      refine r_iload_n hc 3 dL_law_532 rfl ?_
      refine r_iconst (v := 1) hc dL_law_533 rfl ?_
      refine r_iadd hc dL_law_534 ?_
      obtain ⟨hi_111, h⟩ := h
      refine r_sld hc hs hi_111 dL_law_535 ?_
      refine r_aload_n hc 0 dL_law_536 rfl ?_
      refine r_iload_n hc 3 dL_law_537 rfl ?_
      refine r_iconst (v := 2) hc dL_law_538 rfl ?_
      refine r_iadd hc dL_law_539 ?_
      obtain ⟨hi_112, h⟩ := h
      refine r_sld hc hs hi_112 dL_law_540 ?_
      refine r_callVi (d := 2) hc (m_X7_piece h) cw_X7_piece wi_X7_piece ws_X7_piece lm_L_69 (by decide) (by decide) rv_X7 rfl rfl (Nat.le_of_ble_eq_true rfl) dL_law_541 (fun r_114 σ_113 h => ?_)
      refine r_ic_eq hc 1345 dL_law_544 (by decide) (fun q => ?_) (fun q => ?_)
      · have h := kif_t h q
        obtain ⟨x3_115, ex3_115⟩ : ∃ v : Int32, v = x3 + 6 := ⟨_, rfl⟩
        have h := h x3_115 ex3_115
        refine r_iinc (v := x3_115) hc 3 [(3, .int x3_115), (0, .ref b), (1, kz g 0), (2, kz g 55)] dL_law_1345 rfl (by rw [ex3_115]; rfl) (by decide) rfl ?_
        refine r_goto hc 18 dL_law_1348 (by decide) ?_
        refine r_sub [1, 2, 3, 0] rfl ?_
        exact hK _ _ h
      · have h := kif_f h q
        refine r_iconst (v := 0) hc dL_law_547 rfl ?_
        exact r_iret (ls0 := []) hZ dL_law_548 h
    have h := kif_f h q_116
    have zq_116 : w_2.toInt ≠ 12 := ktne q_116
    by_cases q_126 : w_2 = 13
    · have h := kif_t h q_126
      refine r_tabIn hc 549 dL_law_33 (by rw [q_126]; decide) (by rw [q_126]; decide) (by rw [q_126] <;> rfl) (by decide) ?_
      refine r_aload_n hc 1 dL_law_549 rfl ?_
      refine r_aload_n hc 0 dL_law_550 rfl ?_
      refine r_iload_n hc 3 dL_law_551 rfl ?_
      refine r_iconst (v := 1) hc dL_law_552 rfl ?_
      refine r_iadd hc dL_law_553 ?_
      obtain ⟨hi_117, h⟩ := h
      refine r_sld hc hs hi_117 dL_law_554 ?_
      refine r_aload_n hc 0 dL_law_555 rfl ?_
      refine r_iload_n hc 3 dL_law_556 rfl ?_
      refine r_iconst (v := 2) hc dL_law_557 rfl ?_
      refine r_iadd hc dL_law_558 ?_
      obtain ⟨hi_118, h⟩ := h
      refine r_sld hc hs hi_118 dL_law_559 ?_
      refine r_callVi (d := 3) hc (m_X6_pupil h) cw_X6_pupil wi_X6_pupil ws_X6_pupil lm_L_70 (by decide) (by decide) rv_X6 rfl rfl (Nat.le_of_ble_eq_true rfl) dL_law_560 (fun r_120 σ_119 h => ?_)
      refine r_aload_n hc 2 dL_law_563 rfl ?_
      refine r_aload_n hc 0 dL_law_564 rfl ?_
      refine r_iload_n hc 3 dL_law_565 rfl ?_
      refine r_iconst (v := 1) hc dL_law_566 rfl ?_
      refine r_iadd hc dL_law_567 ?_
      obtain ⟨hi_121, h⟩ := h
      refine r_sld hc hs hi_121 dL_law_568 ?_
      refine r_aload_n hc 0 dL_law_569 rfl ?_
      refine r_iload_n hc 3 dL_law_570 rfl ?_
      refine r_iconst (v := 2) hc dL_law_571 rfl ?_
      refine r_iadd hc dL_law_572 ?_
      obtain ⟨hi_122, h⟩ := h
      refine r_sld hc hs hi_122 dL_law_573 ?_
      refine r_callVi (d := 3) hc (m_X7_pupil h) cw_X7_pupil wi_X7_pupil ws_X7_pupil lm_L_73 (by decide) (by decide) rv_X7 rfl rfl (Nat.le_of_ble_eq_true rfl) dL_law_574 (fun r_124 σ_123 h => ?_)
      refine r_ic_eq hc 1345 dL_law_577 (by decide) (fun q => ?_) (fun q => ?_)
      · have h := kif_t h q
        obtain ⟨x3_125, ex3_125⟩ : ∃ v : Int32, v = x3 + 6 := ⟨_, rfl⟩
        have h := h x3_125 ex3_125
        refine r_iinc (v := x3_125) hc 3 [(3, .int x3_125), (0, .ref b), (1, kz g 0), (2, kz g 55)] dL_law_1345 rfl (by rw [ex3_125]; rfl) (by decide) rfl ?_
        refine r_goto hc 18 dL_law_1348 (by decide) ?_
        refine r_sub [1, 2, 3, 0] rfl ?_
        exact hK _ _ h
      · have h := kif_f h q
        refine r_iconst (v := 0) hc dL_law_580 rfl ?_
        exact r_iret (ls0 := []) hZ dL_law_581 h
    have h := kif_f h q_126
    have zq_126 : w_2.toInt ≠ 13 := ktne q_126
    by_cases q_138 : w_2 = 14
    · have h := kif_t h q_138
      refine r_tabIn hc 582 dL_law_33 (by rw [q_138]; decide) (by rw [q_138]; decide) (by rw [q_138] <;> rfl) (by decide) ?_
      refine r_aload_n hc 1 dL_law_582 rfl ?_
      refine r_aload_n hc 0 dL_law_583 rfl ?_
      refine r_iload_n hc 3 dL_law_584 rfl ?_
      refine r_iconst (v := 1) hc dL_law_585 rfl ?_
      refine r_iadd hc dL_law_586 ?_
      obtain ⟨hi_127, h⟩ := h
      refine r_sld hc hs hi_127 dL_law_587 ?_
      refine r_aload_n hc 0 dL_law_588 rfl ?_
      refine r_iload_n hc 3 dL_law_589 rfl ?_
      refine r_iconst (v := 2) hc dL_law_590 rfl ?_
      refine r_iadd hc dL_law_591 ?_
      obtain ⟨hi_128, h⟩ := h
      refine r_sld hc hs hi_128 dL_law_592 ?_
      refine r_aload_n hc 0 dL_law_593 rfl ?_
      refine r_iload_n hc 3 dL_law_594 rfl ?_
      refine r_iconst (v := 3) hc dL_law_595 rfl ?_
      refine r_iadd hc dL_law_596 ?_
      obtain ⟨hi_129, h⟩ := h
      refine r_sld hc hs hi_129 dL_law_597 ?_
      refine r_callVi (d := 4) hc (m_X6_plays h) cw_X6_plays wi_X6_plays ws_X6_plays lm_L_74 (by decide) (by decide) rv_X6 rfl rfl (Nat.le_of_ble_eq_true rfl) dL_law_598 (fun r_131 σ_130 h => ?_)
      refine r_aload_n hc 2 dL_law_601 rfl ?_
      refine r_aload_n hc 0 dL_law_602 rfl ?_
      refine r_iload_n hc 3 dL_law_603 rfl ?_
      refine r_iconst (v := 1) hc dL_law_604 rfl ?_
      refine r_iadd hc dL_law_605 ?_
      obtain ⟨hi_132, h⟩ := h
      refine r_sld hc hs hi_132 dL_law_606 ?_
      refine r_aload_n hc 0 dL_law_607 rfl ?_
      refine r_iload_n hc 3 dL_law_608 rfl ?_
      refine r_iconst (v := 2) hc dL_law_609 rfl ?_
      refine r_iadd hc dL_law_610 ?_
      obtain ⟨hi_133, h⟩ := h
      refine r_sld hc hs hi_133 dL_law_611 ?_
      refine r_aload_n hc 0 dL_law_612 rfl ?_
      refine r_iload_n hc 3 dL_law_613 rfl ?_
      refine r_iconst (v := 3) hc dL_law_614 rfl ?_
      refine r_iadd hc dL_law_615 ?_
      obtain ⟨hi_134, h⟩ := h
      refine r_sld hc hs hi_134 dL_law_616 ?_
      refine r_callVi (d := 4) hc (m_X7_plays h) cw_X7_plays wi_X7_plays ws_X7_plays lm_L_77 (by decide) (by decide) rv_X7 rfl rfl (Nat.le_of_ble_eq_true rfl) dL_law_617 (fun r_136 σ_135 h => ?_)
      refine r_ic_eq hc 1345 dL_law_620 (by decide) (fun q => ?_) (fun q => ?_)
      · have h := kif_t h q
        obtain ⟨x3_137, ex3_137⟩ : ∃ v : Int32, v = x3 + 6 := ⟨_, rfl⟩
        have h := h x3_137 ex3_137
        refine r_iinc (v := x3_137) hc 3 [(3, .int x3_137), (0, .ref b), (1, kz g 0), (2, kz g 55)] dL_law_1345 rfl (by rw [ex3_137]; rfl) (by decide) rfl ?_
        refine r_goto hc 18 dL_law_1348 (by decide) ?_
        refine r_sub [1, 2, 3, 0] rfl ?_
        exact hK _ _ h
      · have h := kif_f h q
        refine r_iconst (v := 0) hc dL_law_623 rfl ?_
        exact r_iret (ls0 := []) hZ dL_law_624 h
    have h := kif_f h q_138
    have zq_138 : w_2.toInt ≠ 14 := ktne q_138
    by_cases q_150 : w_2 = 15
    · have h := kif_t h q_150
      refine r_tabIn hc 625 dL_law_33 (by rw [q_150]; decide) (by rw [q_150]; decide) (by rw [q_150] <;> rfl) (by decide) ?_
      refine r_aload_n hc 1 dL_law_625 rfl ?_
      refine r_aload_n hc 0 dL_law_626 rfl ?_
      refine r_iload_n hc 3 dL_law_627 rfl ?_
      refine r_iconst (v := 1) hc dL_law_628 rfl ?_
      refine r_iadd hc dL_law_629 ?_
      obtain ⟨hi_139, h⟩ := h
      refine r_sld hc hs hi_139 dL_law_630 ?_
      refine r_aload_n hc 0 dL_law_631 rfl ?_
      refine r_iload_n hc 3 dL_law_632 rfl ?_
      refine r_iconst (v := 2) hc dL_law_633 rfl ?_
      refine r_iadd hc dL_law_634 ?_
      obtain ⟨hi_140, h⟩ := h
      refine r_sld hc hs hi_140 dL_law_635 ?_
      refine r_aload_n hc 0 dL_law_636 rfl ?_
      refine r_iload_n hc 3 dL_law_637 rfl ?_
      refine r_iconst (v := 3) hc dL_law_638 rfl ?_
      refine r_iadd hc dL_law_639 ?_
      obtain ⟨hi_141, h⟩ := h
      refine r_sld hc hs hi_141 dL_law_640 ?_
      refine r_callVi (d := 3) hc (m_X6_heard h) cw_X6_heard wi_X6_heard ws_X6_heard lm_L_78 (by decide) (by decide) rv_X6 rfl rfl (Nat.le_of_ble_eq_true rfl) dL_law_641 (fun r_143 σ_142 h => ?_)
      refine r_aload_n hc 2 dL_law_644 rfl ?_
      refine r_aload_n hc 0 dL_law_645 rfl ?_
      refine r_iload_n hc 3 dL_law_646 rfl ?_
      refine r_iconst (v := 1) hc dL_law_647 rfl ?_
      refine r_iadd hc dL_law_648 ?_
      obtain ⟨hi_144, h⟩ := h
      refine r_sld hc hs hi_144 dL_law_649 ?_
      refine r_aload_n hc 0 dL_law_650 rfl ?_
      refine r_iload_n hc 3 dL_law_651 rfl ?_
      refine r_iconst (v := 2) hc dL_law_652 rfl ?_
      refine r_iadd hc dL_law_653 ?_
      obtain ⟨hi_145, h⟩ := h
      refine r_sld hc hs hi_145 dL_law_654 ?_
      refine r_aload_n hc 0 dL_law_655 rfl ?_
      refine r_iload_n hc 3 dL_law_656 rfl ?_
      refine r_iconst (v := 3) hc dL_law_657 rfl ?_
      refine r_iadd hc dL_law_658 ?_
      obtain ⟨hi_146, h⟩ := h
      refine r_sld hc hs hi_146 dL_law_659 ?_
      refine r_callVi (d := 3) hc (m_X7_heard h) cw_X7_heard wi_X7_heard ws_X7_heard lm_L_81 (by decide) (by decide) rv_X7 rfl rfl (Nat.le_of_ble_eq_true rfl) dL_law_660 (fun r_148 σ_147 h => ?_)
      refine r_ic_eq hc 1345 dL_law_663 (by decide) (fun q => ?_) (fun q => ?_)
      · have h := kif_t h q
        obtain ⟨x3_149, ex3_149⟩ : ∃ v : Int32, v = x3 + 6 := ⟨_, rfl⟩
        have h := h x3_149 ex3_149
        refine r_iinc (v := x3_149) hc 3 [(3, .int x3_149), (0, .ref b), (1, kz g 0), (2, kz g 55)] dL_law_1345 rfl (by rw [ex3_149]; rfl) (by decide) rfl ?_
        refine r_goto hc 18 dL_law_1348 (by decide) ?_
        refine r_sub [1, 2, 3, 0] rfl ?_
        exact hK _ _ h
      · have h := kif_f h q
        refine r_iconst (v := 0) hc dL_law_666 rfl ?_
        exact r_iret (ls0 := []) hZ dL_law_667 h
    have h := kif_f h q_150
    have zq_150 : w_2.toInt ≠ 15 := ktne q_150
    by_cases q_158 : w_2 = 16
    · have h := kif_t h q_158
      refine r_tabIn hc 668 dL_law_33 (by rw [q_158]; decide) (by rw [q_158]; decide) (by rw [q_158] <;> rfl) (by decide) ?_
      refine r_aload_n hc 1 dL_law_668 rfl ?_
      refine r_aload_n hc 0 dL_law_669 rfl ?_
      refine r_iload_n hc 3 dL_law_670 rfl ?_
      refine r_iconst (v := 1) hc dL_law_671 rfl ?_
      refine r_iadd hc dL_law_672 ?_
      obtain ⟨hi_151, h⟩ := h
      refine r_sld hc hs hi_151 dL_law_673 ?_
      refine r_callVi (d := 1) hc (m_X6_strike h) cw_X6_strike wi_X6_strike ws_X6_strike lm_L_82 (by decide) (by decide) rv_X6 rfl rfl (Nat.le_of_ble_eq_true rfl) dL_law_674 (fun r_153 σ_152 h => ?_)
      refine r_aload_n hc 2 dL_law_677 rfl ?_
      refine r_aload_n hc 0 dL_law_678 rfl ?_
      refine r_iload_n hc 3 dL_law_679 rfl ?_
      refine r_iconst (v := 1) hc dL_law_680 rfl ?_
      refine r_iadd hc dL_law_681 ?_
      obtain ⟨hi_154, h⟩ := h
      refine r_sld hc hs hi_154 dL_law_682 ?_
      refine r_callVi (d := 1) hc (m_X7_strike h) cw_X7_strike wi_X7_strike ws_X7_strike lm_L_85 (by decide) (by decide) rv_X7 rfl rfl (Nat.le_of_ble_eq_true rfl) dL_law_683 (fun r_156 σ_155 h => ?_)
      refine r_ic_eq hc 1345 dL_law_686 (by decide) (fun q => ?_) (fun q => ?_)
      · have h := kif_t h q
        obtain ⟨x3_157, ex3_157⟩ : ∃ v : Int32, v = x3 + 6 := ⟨_, rfl⟩
        have h := h x3_157 ex3_157
        refine r_iinc (v := x3_157) hc 3 [(3, .int x3_157), (0, .ref b), (1, kz g 0), (2, kz g 55)] dL_law_1345 rfl (by rw [ex3_157]; rfl) (by decide) rfl ?_
        refine r_goto hc 18 dL_law_1348 (by decide) ?_
        refine r_sub [1, 2, 3, 0] rfl ?_
        exact hK _ _ h
      · have h := kif_f h q
        refine r_iconst (v := 0) hc dL_law_689 rfl ?_
        exact r_iret (ls0 := []) hZ dL_law_690 h
    have h := kif_f h q_158
    have zq_158 : w_2.toInt ≠ 16 := ktne q_158
    by_cases q_166 : w_2 = 17
    · have h := kif_t h q_166
      refine r_tabIn hc 691 dL_law_33 (by rw [q_166]; decide) (by rw [q_166]; decide) (by rw [q_166] <;> rfl) (by decide) ?_
      refine r_aload_n hc 1 dL_law_691 rfl ?_
      refine r_aload_n hc 0 dL_law_692 rfl ?_
      refine r_iload_n hc 3 dL_law_693 rfl ?_
      refine r_iconst (v := 1) hc dL_law_694 rfl ?_
      refine r_iadd hc dL_law_695 ?_
      obtain ⟨hi_159, h⟩ := h
      refine r_sld hc hs hi_159 dL_law_696 ?_
      refine r_callVi (d := 3) hc (m_X6_soon h) cw_X6_soon wi_X6_soon ws_X6_soon lm_L_86 (by decide) (by decide) rv_X6 rfl rfl (Nat.le_of_ble_eq_true rfl) dL_law_697 (fun r_161 σ_160 h => ?_)
      refine r_aload_n hc 2 dL_law_700 rfl ?_
      refine r_aload_n hc 0 dL_law_701 rfl ?_
      refine r_iload_n hc 3 dL_law_702 rfl ?_
      refine r_iconst (v := 1) hc dL_law_703 rfl ?_
      refine r_iadd hc dL_law_704 ?_
      obtain ⟨hi_162, h⟩ := h
      refine r_sld hc hs hi_162 dL_law_705 ?_
      refine r_callVi (d := 3) hc (m_X7_soon h) cw_X7_soon wi_X7_soon ws_X7_soon lm_L_89 (by decide) (by decide) rv_X7 rfl rfl (Nat.le_of_ble_eq_true rfl) dL_law_706 (fun r_164 σ_163 h => ?_)
      refine r_ic_eq hc 1345 dL_law_709 (by decide) (fun q => ?_) (fun q => ?_)
      · have h := kif_t h q
        obtain ⟨x3_165, ex3_165⟩ : ∃ v : Int32, v = x3 + 6 := ⟨_, rfl⟩
        have h := h x3_165 ex3_165
        refine r_iinc (v := x3_165) hc 3 [(3, .int x3_165), (0, .ref b), (1, kz g 0), (2, kz g 55)] dL_law_1345 rfl (by rw [ex3_165]; rfl) (by decide) rfl ?_
        refine r_goto hc 18 dL_law_1348 (by decide) ?_
        refine r_sub [1, 2, 3, 0] rfl ?_
        exact hK _ _ h
      · have h := kif_f h q
        refine r_iconst (v := 0) hc dL_law_712 rfl ?_
        exact r_iret (ls0 := []) hZ dL_law_713 h
    have h := kif_f h q_166
    have zq_166 : w_2.toInt ≠ 17 := ktne q_166
    by_cases q_176 : w_2 = 18
    · have h := kif_t h q_176
      refine r_tabIn hc 714 dL_law_33 (by rw [q_176]; decide) (by rw [q_176]; decide) (by rw [q_176] <;> rfl) (by decide) ?_
      refine r_aload_n hc 1 dL_law_714 rfl ?_
      refine r_aload_n hc 0 dL_law_715 rfl ?_
      refine r_iload_n hc 3 dL_law_716 rfl ?_
      refine r_iconst (v := 1) hc dL_law_717 rfl ?_
      refine r_iadd hc dL_law_718 ?_
      obtain ⟨hi_167, h⟩ := h
      refine r_sld hc hs hi_167 dL_law_719 ?_
      refine r_aload_n hc 0 dL_law_720 rfl ?_
      refine r_iload_n hc 3 dL_law_721 rfl ?_
      refine r_iconst (v := 2) hc dL_law_722 rfl ?_
      refine r_iadd hc dL_law_723 ?_
      obtain ⟨hi_168, h⟩ := h
      refine r_sld hc hs hi_168 dL_law_724 ?_
      refine r_callVi (d := 3) hc (m_X6_together h) cw_X6_together wi_X6_together ws_X6_together lm_L_90 (by decide) (by decide) rv_X6 rfl rfl (Nat.le_of_ble_eq_true rfl) dL_law_725 (fun r_170 σ_169 h => ?_)
      refine r_aload_n hc 2 dL_law_728 rfl ?_
      refine r_aload_n hc 0 dL_law_729 rfl ?_
      refine r_iload_n hc 3 dL_law_730 rfl ?_
      refine r_iconst (v := 1) hc dL_law_731 rfl ?_
      refine r_iadd hc dL_law_732 ?_
      obtain ⟨hi_171, h⟩ := h
      refine r_sld hc hs hi_171 dL_law_733 ?_
      refine r_aload_n hc 0 dL_law_734 rfl ?_
      refine r_iload_n hc 3 dL_law_735 rfl ?_
      refine r_iconst (v := 2) hc dL_law_736 rfl ?_
      refine r_iadd hc dL_law_737 ?_
      obtain ⟨hi_172, h⟩ := h
      refine r_sld hc hs hi_172 dL_law_738 ?_
      refine r_callVi (d := 3) hc (m_X7_together h) cw_X7_together wi_X7_together ws_X7_together lm_L_93 (by decide) (by decide) rv_X7 rfl rfl (Nat.le_of_ble_eq_true rfl) dL_law_739 (fun r_174 σ_173 h => ?_)
      refine r_ic_eq hc 1345 dL_law_742 (by decide) (fun q => ?_) (fun q => ?_)
      · have h := kif_t h q
        obtain ⟨x3_175, ex3_175⟩ : ∃ v : Int32, v = x3 + 6 := ⟨_, rfl⟩
        have h := h x3_175 ex3_175
        refine r_iinc (v := x3_175) hc 3 [(3, .int x3_175), (0, .ref b), (1, kz g 0), (2, kz g 55)] dL_law_1345 rfl (by rw [ex3_175]; rfl) (by decide) rfl ?_
        refine r_goto hc 18 dL_law_1348 (by decide) ?_
        refine r_sub [1, 2, 3, 0] rfl ?_
        exact hK _ _ h
      · have h := kif_f h q
        refine r_iconst (v := 0) hc dL_law_745 rfl ?_
        exact r_iret (ls0 := []) hZ dL_law_746 h
    have h := kif_f h q_176
    have zq_176 : w_2.toInt ≠ 18 := ktne q_176
    by_cases q_182 : w_2 = 19
    · have h := kif_t h q_182
      refine r_tabIn hc 747 dL_law_33 (by rw [q_182]; decide) (by rw [q_182]; decide) (by rw [q_182] <;> rfl) (by decide) ?_
      refine r_aload_n hc 1 dL_law_747 rfl ?_
      refine r_callVi (d := 3) hc (m_X6_itself h) cw_X6_itself wi_X6_itself ws_X6_itself lm_L_94 (by decide) (by decide) rv_X6 rfl rfl (Nat.le_of_ble_eq_true rfl) dL_law_748 (fun r_178 σ_177 h => ?_)
      refine r_aload_n hc 2 dL_law_751 rfl ?_
      refine r_callVi (d := 3) hc (m_X7_itself h) cw_X7_itself wi_X7_itself ws_X7_itself lm_L_97 (by decide) (by decide) rv_X7 rfl rfl (Nat.le_of_ble_eq_true rfl) dL_law_752 (fun r_180 σ_179 h => ?_)
      refine r_ic_eq hc 1345 dL_law_755 (by decide) (fun q => ?_) (fun q => ?_)
      · have h := kif_t h q
        obtain ⟨x3_181, ex3_181⟩ : ∃ v : Int32, v = x3 + 6 := ⟨_, rfl⟩
        have h := h x3_181 ex3_181
        refine r_iinc (v := x3_181) hc 3 [(3, .int x3_181), (0, .ref b), (1, kz g 0), (2, kz g 55)] dL_law_1345 rfl (by rw [ex3_181]; rfl) (by decide) rfl ?_
        refine r_goto hc 18 dL_law_1348 (by decide) ?_
        refine r_sub [1, 2, 3, 0] rfl ?_
        exact hK _ _ h
      · have h := kif_f h q
        refine r_iconst (v := 0) hc dL_law_758 rfl ?_
        exact r_iret (ls0 := []) hZ dL_law_759 h
    have h := kif_f h q_182
    have zq_182 : w_2.toInt ≠ 19 := ktne q_182
    by_cases q_192 : w_2 = 20
    · have h := kif_t h q_192
      refine r_tabIn hc 760 dL_law_33 (by rw [q_192]; decide) (by rw [q_192]; decide) (by rw [q_192] <;> rfl) (by decide) ?_
      refine r_aload_n hc 1 dL_law_760 rfl ?_
      refine r_aload_n hc 0 dL_law_761 rfl ?_
      refine r_iload_n hc 3 dL_law_762 rfl ?_
      refine r_iconst (v := 1) hc dL_law_763 rfl ?_
      refine r_iadd hc dL_law_764 ?_
      obtain ⟨hi_183, h⟩ := h
      refine r_sld hc hs hi_183 dL_law_765 ?_
      refine r_aload_n hc 0 dL_law_766 rfl ?_
      refine r_iload_n hc 3 dL_law_767 rfl ?_
      refine r_iconst (v := 2) hc dL_law_768 rfl ?_
      refine r_iadd hc dL_law_769 ?_
      obtain ⟨hi_184, h⟩ := h
      refine r_sld hc hs hi_184 dL_law_770 ?_
      refine r_callVi (d := 3) hc (m_X6_nightsOf h) cw_X6_nightsOf wi_X6_nightsOf ws_X6_nightsOf lm_L_98 (by decide) (by decide) rv_X6 rfl rfl (Nat.le_of_ble_eq_true rfl) dL_law_771 (fun r_186 σ_185 h => ?_)
      refine r_aload_n hc 2 dL_law_774 rfl ?_
      refine r_aload_n hc 0 dL_law_775 rfl ?_
      refine r_iload_n hc 3 dL_law_776 rfl ?_
      refine r_iconst (v := 1) hc dL_law_777 rfl ?_
      refine r_iadd hc dL_law_778 ?_
      obtain ⟨hi_187, h⟩ := h
      refine r_sld hc hs hi_187 dL_law_779 ?_
      refine r_aload_n hc 0 dL_law_780 rfl ?_
      refine r_iload_n hc 3 dL_law_781 rfl ?_
      refine r_iconst (v := 2) hc dL_law_782 rfl ?_
      refine r_iadd hc dL_law_783 ?_
      obtain ⟨hi_188, h⟩ := h
      refine r_sld hc hs hi_188 dL_law_784 ?_
      refine r_callVi (d := 3) hc (m_X7_nightsOf h) cw_X7_nightsOf wi_X7_nightsOf ws_X7_nightsOf lm_L_101 (by decide) (by decide) rv_X7 rfl rfl (Nat.le_of_ble_eq_true rfl) dL_law_785 (fun r_190 σ_189 h => ?_)
      refine r_ic_eq hc 1345 dL_law_788 (by decide) (fun q => ?_) (fun q => ?_)
      · have h := kif_t h q
        obtain ⟨x3_191, ex3_191⟩ : ∃ v : Int32, v = x3 + 6 := ⟨_, rfl⟩
        have h := h x3_191 ex3_191
        refine r_iinc (v := x3_191) hc 3 [(3, .int x3_191), (0, .ref b), (1, kz g 0), (2, kz g 55)] dL_law_1345 rfl (by rw [ex3_191]; rfl) (by decide) rfl ?_
        refine r_goto hc 18 dL_law_1348 (by decide) ?_
        refine r_sub [1, 2, 3, 0] rfl ?_
        exact hK _ _ h
      · have h := kif_f h q
        refine r_iconst (v := 0) hc dL_law_791 rfl ?_
        exact r_iret (ls0 := []) hZ dL_law_792 h
    have h := kif_f h q_192
    have zq_192 : w_2.toInt ≠ 20 := ktne q_192
    by_cases q_206 : w_2 = 21
    · have h := kif_t h q_206
      refine r_tabIn hc 793 dL_law_33 (by rw [q_206]; decide) (by rw [q_206]; decide) (by rw [q_206] <;> rfl) (by decide) ?_
      refine r_aload_n hc 1 dL_law_793 rfl ?_
      refine r_aload_n hc 0 dL_law_794 rfl ?_
      refine r_iload_n hc 3 dL_law_795 rfl ?_
      refine r_iconst (v := 1) hc dL_law_796 rfl ?_
      refine r_iadd hc dL_law_797 ?_
      obtain ⟨hi_193, h⟩ := h
      refine r_sld hc hs hi_193 dL_law_798 ?_
      refine r_aload_n hc 0 dL_law_799 rfl ?_
      refine r_iload_n hc 3 dL_law_800 rfl ?_
      refine r_iconst (v := 2) hc dL_law_801 rfl ?_
      refine r_iadd hc dL_law_802 ?_
      obtain ⟨hi_194, h⟩ := h
      refine r_sld hc hs hi_194 dL_law_803 ?_
      refine r_aload_n hc 0 dL_law_804 rfl ?_
      refine r_iload_n hc 3 dL_law_805 rfl ?_
      refine r_iconst (v := 3) hc dL_law_806 rfl ?_
      refine r_iadd hc dL_law_807 ?_
      obtain ⟨hi_195, h⟩ := h
      refine r_sld hc hs hi_195 dL_law_808 ?_
      refine r_aload_n hc 0 dL_law_809 rfl ?_
      refine r_iload_n hc 3 dL_law_810 rfl ?_
      refine r_iconst (v := 4) hc dL_law_811 rfl ?_
      refine r_iadd hc dL_law_812 ?_
      obtain ⟨hi_196, h⟩ := h
      refine r_sld hc hs hi_196 dL_law_813 ?_
      refine r_callVi (d := 3) hc (m_X6_struck h) cw_X6_struck wi_X6_struck ws_X6_struck lm_L_102 (by decide) (by decide) rv_X6 rfl rfl (Nat.le_of_ble_eq_true rfl) dL_law_814 (fun r_198 σ_197 h => ?_)
      refine r_aload_n hc 2 dL_law_817 rfl ?_
      refine r_aload_n hc 0 dL_law_818 rfl ?_
      refine r_iload_n hc 3 dL_law_819 rfl ?_
      refine r_iconst (v := 1) hc dL_law_820 rfl ?_
      refine r_iadd hc dL_law_821 ?_
      obtain ⟨hi_199, h⟩ := h
      refine r_sld hc hs hi_199 dL_law_822 ?_
      refine r_aload_n hc 0 dL_law_823 rfl ?_
      refine r_iload_n hc 3 dL_law_824 rfl ?_
      refine r_iconst (v := 2) hc dL_law_825 rfl ?_
      refine r_iadd hc dL_law_826 ?_
      obtain ⟨hi_200, h⟩ := h
      refine r_sld hc hs hi_200 dL_law_827 ?_
      refine r_aload_n hc 0 dL_law_828 rfl ?_
      refine r_iload_n hc 3 dL_law_829 rfl ?_
      refine r_iconst (v := 3) hc dL_law_830 rfl ?_
      refine r_iadd hc dL_law_831 ?_
      obtain ⟨hi_201, h⟩ := h
      refine r_sld hc hs hi_201 dL_law_832 ?_
      refine r_aload_n hc 0 dL_law_833 rfl ?_
      refine r_iload_n hc 3 dL_law_834 rfl ?_
      refine r_iconst (v := 4) hc dL_law_835 rfl ?_
      refine r_iadd hc dL_law_836 ?_
      obtain ⟨hi_202, h⟩ := h
      refine r_sld hc hs hi_202 dL_law_837 ?_
      refine r_callVi (d := 2) hc (m_X7_struck h) cw_X7_struck wi_X7_struck ws_X7_struck lm_L_106 (by decide) (by decide) rv_X7 rfl rfl (Nat.le_of_ble_eq_true rfl) dL_law_838 (fun r_204 σ_203 h => ?_)
      refine r_ic_eq hc 1345 dL_law_841 (by decide) (fun q => ?_) (fun q => ?_)
      · have h := kif_t h q
        obtain ⟨x3_205, ex3_205⟩ : ∃ v : Int32, v = x3 + 6 := ⟨_, rfl⟩
        have h := h x3_205 ex3_205
        refine r_iinc (v := x3_205) hc 3 [(3, .int x3_205), (0, .ref b), (1, kz g 0), (2, kz g 55)] dL_law_1345 rfl (by rw [ex3_205]; rfl) (by decide) rfl ?_
        refine r_goto hc 18 dL_law_1348 (by decide) ?_
        refine r_sub [1, 2, 3, 0] rfl ?_
        exact hK _ _ h
      · have h := kif_f h q
        refine r_iconst (v := 0) hc dL_law_844 rfl ?_
        exact r_iret (ls0 := []) hZ dL_law_845 h
    have h := kif_f h q_206
    have zq_206 : w_2.toInt ≠ 21 := ktne q_206
    by_cases q_216 : w_2 = 22
    · have h := kif_t h q_216
      refine r_tabIn hc 846 dL_law_33 (by rw [q_216]; decide) (by rw [q_216]; decide) (by rw [q_216] <;> rfl) (by decide) ?_
      refine r_aload_n hc 1 dL_law_846 rfl ?_
      refine r_aload_n hc 0 dL_law_847 rfl ?_
      refine r_iload_n hc 3 dL_law_848 rfl ?_
      refine r_iconst (v := 1) hc dL_law_849 rfl ?_
      refine r_iadd hc dL_law_850 ?_
      obtain ⟨hi_207, h⟩ := h
      refine r_sld hc hs hi_207 dL_law_851 ?_
      refine r_aload_n hc 0 dL_law_852 rfl ?_
      refine r_iload_n hc 3 dL_law_853 rfl ?_
      refine r_iconst (v := 2) hc dL_law_854 rfl ?_
      refine r_iadd hc dL_law_855 ?_
      obtain ⟨hi_208, h⟩ := h
      refine r_sld hc hs hi_208 dL_law_856 ?_
      refine r_callVi (d := 4) hc (m_X6_lessons h) cw_X6_lessons wi_X6_lessons ws_X6_lessons lm_L_107 (by decide) (by decide) rv_X6 rfl rfl (Nat.le_of_ble_eq_true rfl) dL_law_857 (fun r_210 σ_209 h => ?_)
      refine r_aload_n hc 2 dL_law_860 rfl ?_
      refine r_aload_n hc 0 dL_law_861 rfl ?_
      refine r_iload_n hc 3 dL_law_862 rfl ?_
      refine r_iconst (v := 1) hc dL_law_863 rfl ?_
      refine r_iadd hc dL_law_864 ?_
      obtain ⟨hi_211, h⟩ := h
      refine r_sld hc hs hi_211 dL_law_865 ?_
      refine r_aload_n hc 0 dL_law_866 rfl ?_
      refine r_iload_n hc 3 dL_law_867 rfl ?_
      refine r_iconst (v := 2) hc dL_law_868 rfl ?_
      refine r_iadd hc dL_law_869 ?_
      obtain ⟨hi_212, h⟩ := h
      refine r_sld hc hs hi_212 dL_law_870 ?_
      refine r_callVi (d := 3) hc (m_X7_lessons h) cw_X7_lessons wi_X7_lessons ws_X7_lessons lm_L_110 (by decide) (by decide) rv_X7 rfl rfl (Nat.le_of_ble_eq_true rfl) dL_law_871 (fun r_214 σ_213 h => ?_)
      refine r_ic_eq hc 1345 dL_law_874 (by decide) (fun q => ?_) (fun q => ?_)
      · have h := kif_t h q
        obtain ⟨x3_215, ex3_215⟩ : ∃ v : Int32, v = x3 + 6 := ⟨_, rfl⟩
        have h := h x3_215 ex3_215
        refine r_iinc (v := x3_215) hc 3 [(3, .int x3_215), (0, .ref b), (1, kz g 0), (2, kz g 55)] dL_law_1345 rfl (by rw [ex3_215]; rfl) (by decide) rfl ?_
        refine r_goto hc 18 dL_law_1348 (by decide) ?_
        refine r_sub [1, 2, 3, 0] rfl ?_
        exact hK _ _ h
      · have h := kif_f h q
        refine r_iconst (v := 0) hc dL_law_877 rfl ?_
        exact r_iret (ls0 := []) hZ dL_law_878 h
    have h := kif_f h q_216
    have zq_216 : w_2.toInt ≠ 22 := ktne q_216
    by_cases q_226 : w_2 = 23
    · have h := kif_t h q_226
      refine r_tabIn hc 879 dL_law_33 (by rw [q_226]; decide) (by rw [q_226]; decide) (by rw [q_226] <;> rfl) (by decide) ?_
      refine r_aload_n hc 1 dL_law_879 rfl ?_
      refine r_aload_n hc 0 dL_law_880 rfl ?_
      refine r_iload_n hc 3 dL_law_881 rfl ?_
      refine r_iconst (v := 1) hc dL_law_882 rfl ?_
      refine r_iadd hc dL_law_883 ?_
      obtain ⟨hi_217, h⟩ := h
      refine r_sld hc hs hi_217 dL_law_884 ?_
      refine r_aload_n hc 0 dL_law_885 rfl ?_
      refine r_iload_n hc 3 dL_law_886 rfl ?_
      refine r_iconst (v := 2) hc dL_law_887 rfl ?_
      refine r_iadd hc dL_law_888 ?_
      obtain ⟨hi_218, h⟩ := h
      refine r_sld hc hs hi_218 dL_law_889 ?_
      refine r_callVi (d := 9) hc (m_X6_programme h) cw_X6_programme wi_X6_programme ws_X6_programme lm_L_111 (by decide) (by decide) rv_X6 rfl rfl (Nat.le_of_ble_eq_true rfl) dL_law_890 (fun r_220 σ_219 h => ?_)
      refine r_aload_n hc 2 dL_law_893 rfl ?_
      refine r_aload_n hc 0 dL_law_894 rfl ?_
      refine r_iload_n hc 3 dL_law_895 rfl ?_
      refine r_iconst (v := 1) hc dL_law_896 rfl ?_
      refine r_iadd hc dL_law_897 ?_
      obtain ⟨hi_221, h⟩ := h
      refine r_sld hc hs hi_221 dL_law_898 ?_
      refine r_aload_n hc 0 dL_law_899 rfl ?_
      refine r_iload_n hc 3 dL_law_900 rfl ?_
      refine r_iconst (v := 2) hc dL_law_901 rfl ?_
      refine r_iadd hc dL_law_902 ?_
      obtain ⟨hi_222, h⟩ := h
      refine r_sld hc hs hi_222 dL_law_903 ?_
      refine r_callVi (d := 5) hc (m_X7_programme h) cw_X7_programme wi_X7_programme ws_X7_programme lm_L_114 (by decide) (by decide) rv_X7 rfl rfl (Nat.le_of_ble_eq_true rfl) dL_law_904 (fun r_224 σ_223 h => ?_)
      refine r_ic_eq hc 1345 dL_law_907 (by decide) (fun q => ?_) (fun q => ?_)
      · have h := kif_t h q
        obtain ⟨x3_225, ex3_225⟩ : ∃ v : Int32, v = x3 + 6 := ⟨_, rfl⟩
        have h := h x3_225 ex3_225
        refine r_iinc (v := x3_225) hc 3 [(3, .int x3_225), (0, .ref b), (1, kz g 0), (2, kz g 55)] dL_law_1345 rfl (by rw [ex3_225]; rfl) (by decide) rfl ?_
        refine r_goto hc 18 dL_law_1348 (by decide) ?_
        refine r_sub [1, 2, 3, 0] rfl ?_
        exact hK _ _ h
      · have h := kif_f h q
        refine r_iconst (v := 0) hc dL_law_910 rfl ?_
        exact r_iret (ls0 := []) hZ dL_law_911 h
    have h := kif_f h q_226
    have zq_226 : w_2.toInt ≠ 23 := ktne q_226
    by_cases q_234 : w_2 = 24
    · have h := kif_t h q_234
      refine r_tabIn hc 912 dL_law_33 (by rw [q_234]; decide) (by rw [q_234]; decide) (by rw [q_234] <;> rfl) (by decide) ?_
      refine r_aload_n hc 1 dL_law_912 rfl ?_
      refine r_aload_n hc 0 dL_law_913 rfl ?_
      refine r_iload_n hc 3 dL_law_914 rfl ?_
      refine r_iconst (v := 1) hc dL_law_915 rfl ?_
      refine r_iadd hc dL_law_916 ?_
      obtain ⟨hi_227, h⟩ := h
      refine r_sld hc hs hi_227 dL_law_917 ?_
      refine r_callVi (d := 3) hc (m_X6_chords h) cw_X6_chords wi_X6_chords ws_X6_chords lm_L_115 (by decide) (by decide) rv_X6 rfl rfl (Nat.le_of_ble_eq_true rfl) dL_law_918 (fun r_229 σ_228 h => ?_)
      refine r_aload_n hc 2 dL_law_921 rfl ?_
      refine r_aload_n hc 0 dL_law_922 rfl ?_
      refine r_iload_n hc 3 dL_law_923 rfl ?_
      refine r_iconst (v := 1) hc dL_law_924 rfl ?_
      refine r_iadd hc dL_law_925 ?_
      obtain ⟨hi_230, h⟩ := h
      refine r_sld hc hs hi_230 dL_law_926 ?_
      refine r_callVi (d := 1) hc (m_X7_chords h) cw_X7_chords wi_X7_chords ws_X7_chords lm_L_118 (by decide) (by decide) rv_X7 rfl rfl (Nat.le_of_ble_eq_true rfl) dL_law_927 (fun r_232 σ_231 h => ?_)
      refine r_ic_eq hc 1345 dL_law_930 (by decide) (fun q => ?_) (fun q => ?_)
      · have h := kif_t h q
        obtain ⟨x3_233, ex3_233⟩ : ∃ v : Int32, v = x3 + 6 := ⟨_, rfl⟩
        have h := h x3_233 ex3_233
        refine r_iinc (v := x3_233) hc 3 [(3, .int x3_233), (0, .ref b), (1, kz g 0), (2, kz g 55)] dL_law_1345 rfl (by rw [ex3_233]; rfl) (by decide) rfl ?_
        refine r_goto hc 18 dL_law_1348 (by decide) ?_
        refine r_sub [1, 2, 3, 0] rfl ?_
        exact hK _ _ h
      · have h := kif_f h q
        refine r_iconst (v := 0) hc dL_law_933 rfl ?_
        exact r_iret (ls0 := []) hZ dL_law_934 h
    have h := kif_f h q_234
    have zq_234 : w_2.toInt ≠ 24 := ktne q_234
    by_cases q_248 : w_2 = 25
    · have h := kif_t h q_248
      refine r_tabIn hc 935 dL_law_33 (by rw [q_248]; decide) (by rw [q_248]; decide) (by rw [q_248] <;> rfl) (by decide) ?_
      refine r_aload_n hc 1 dL_law_935 rfl ?_
      refine r_aload_n hc 0 dL_law_936 rfl ?_
      refine r_iload_n hc 3 dL_law_937 rfl ?_
      refine r_iconst (v := 1) hc dL_law_938 rfl ?_
      refine r_iadd hc dL_law_939 ?_
      obtain ⟨hi_235, h⟩ := h
      refine r_sld hc hs hi_235 dL_law_940 ?_
      refine r_aload_n hc 0 dL_law_941 rfl ?_
      refine r_iload_n hc 3 dL_law_942 rfl ?_
      refine r_iconst (v := 2) hc dL_law_943 rfl ?_
      refine r_iadd hc dL_law_944 ?_
      obtain ⟨hi_236, h⟩ := h
      refine r_sld hc hs hi_236 dL_law_945 ?_
      refine r_aload_n hc 0 dL_law_946 rfl ?_
      refine r_iload_n hc 3 dL_law_947 rfl ?_
      refine r_iconst (v := 3) hc dL_law_948 rfl ?_
      refine r_iadd hc dL_law_949 ?_
      obtain ⟨hi_237, h⟩ := h
      refine r_sld hc hs hi_237 dL_law_950 ?_
      refine r_aload_n hc 0 dL_law_951 rfl ?_
      refine r_iload_n hc 3 dL_law_952 rfl ?_
      refine r_iconst (v := 4) hc dL_law_953 rfl ?_
      refine r_iadd hc dL_law_954 ?_
      obtain ⟨hi_238, h⟩ := h
      refine r_sld hc hs hi_238 dL_law_955 ?_
      refine r_callVi (d := 4) hc (m_X6_who h) cw_X6_who wi_X6_who ws_X6_who lm_L_119 (by decide) (by decide) rv_X6 rfl rfl (Nat.le_of_ble_eq_true rfl) dL_law_956 (fun r_240 σ_239 h => ?_)
      refine r_aload_n hc 2 dL_law_959 rfl ?_
      refine r_aload_n hc 0 dL_law_960 rfl ?_
      refine r_iload_n hc 3 dL_law_961 rfl ?_
      refine r_iconst (v := 1) hc dL_law_962 rfl ?_
      refine r_iadd hc dL_law_963 ?_
      obtain ⟨hi_241, h⟩ := h
      refine r_sld hc hs hi_241 dL_law_964 ?_
      refine r_aload_n hc 0 dL_law_965 rfl ?_
      refine r_iload_n hc 3 dL_law_966 rfl ?_
      refine r_iconst (v := 2) hc dL_law_967 rfl ?_
      refine r_iadd hc dL_law_968 ?_
      obtain ⟨hi_242, h⟩ := h
      refine r_sld hc hs hi_242 dL_law_969 ?_
      refine r_aload_n hc 0 dL_law_970 rfl ?_
      refine r_iload_n hc 3 dL_law_971 rfl ?_
      refine r_iconst (v := 3) hc dL_law_972 rfl ?_
      refine r_iadd hc dL_law_973 ?_
      obtain ⟨hi_243, h⟩ := h
      refine r_sld hc hs hi_243 dL_law_974 ?_
      refine r_aload_n hc 0 dL_law_975 rfl ?_
      refine r_iload_n hc 3 dL_law_976 rfl ?_
      refine r_iconst (v := 4) hc dL_law_977 rfl ?_
      refine r_iadd hc dL_law_978 ?_
      obtain ⟨hi_244, h⟩ := h
      refine r_sld hc hs hi_244 dL_law_979 ?_
      refine r_callVi (d := 2) hc (m_X7_who h) cw_X7_who wi_X7_who ws_X7_who lm_L_122 (by decide) (by decide) rv_X7 rfl rfl (Nat.le_of_ble_eq_true rfl) dL_law_980 (fun r_246 σ_245 h => ?_)
      refine r_ic_eq hc 1345 dL_law_983 (by decide) (fun q => ?_) (fun q => ?_)
      · have h := kif_t h q
        obtain ⟨x3_247, ex3_247⟩ : ∃ v : Int32, v = x3 + 6 := ⟨_, rfl⟩
        have h := h x3_247 ex3_247
        refine r_iinc (v := x3_247) hc 3 [(3, .int x3_247), (0, .ref b), (1, kz g 0), (2, kz g 55)] dL_law_1345 rfl (by rw [ex3_247]; rfl) (by decide) rfl ?_
        refine r_goto hc 18 dL_law_1348 (by decide) ?_
        refine r_sub [1, 2, 3, 0] rfl ?_
        exact hK _ _ h
      · have h := kif_f h q
        refine r_iconst (v := 0) hc dL_law_986 rfl ?_
        exact r_iret (ls0 := []) hZ dL_law_987 h
    have h := kif_f h q_248
    have zq_248 : w_2.toInt ≠ 25 := ktne q_248
    by_cases q_258 : w_2 = 26
    · have h := kif_t h q_258
      refine r_tabIn hc 988 dL_law_33 (by rw [q_258]; decide) (by rw [q_258]; decide) (by rw [q_258] <;> rfl) (by decide) ?_
      refine r_aload_n hc 1 dL_law_988 rfl ?_
      refine r_aload_n hc 0 dL_law_989 rfl ?_
      refine r_iload_n hc 3 dL_law_990 rfl ?_
      refine r_iconst (v := 1) hc dL_law_991 rfl ?_
      refine r_iadd hc dL_law_992 ?_
      obtain ⟨hi_249, h⟩ := h
      refine r_sld hc hs hi_249 dL_law_993 ?_
      refine r_aload_n hc 0 dL_law_994 rfl ?_
      refine r_iload_n hc 3 dL_law_995 rfl ?_
      refine r_iconst (v := 2) hc dL_law_996 rfl ?_
      refine r_iadd hc dL_law_997 ?_
      obtain ⟨hi_250, h⟩ := h
      refine r_sld hc hs hi_250 dL_law_998 ?_
      refine r_callVi (d := 2) hc (m_X6_tunings h) cw_X6_tunings wi_X6_tunings ws_X6_tunings lm_L_123 (by decide) (by decide) rv_X6 rfl rfl (Nat.le_of_ble_eq_true rfl) dL_law_999 (fun r_252 σ_251 h => ?_)
      refine r_aload_n hc 2 dL_law_1002 rfl ?_
      refine r_aload_n hc 0 dL_law_1003 rfl ?_
      refine r_iload_n hc 3 dL_law_1004 rfl ?_
      refine r_iconst (v := 1) hc dL_law_1005 rfl ?_
      refine r_iadd hc dL_law_1006 ?_
      obtain ⟨hi_253, h⟩ := h
      refine r_sld hc hs hi_253 dL_law_1007 ?_
      refine r_aload_n hc 0 dL_law_1008 rfl ?_
      refine r_iload_n hc 3 dL_law_1009 rfl ?_
      refine r_iconst (v := 2) hc dL_law_1010 rfl ?_
      refine r_iadd hc dL_law_1011 ?_
      obtain ⟨hi_254, h⟩ := h
      refine r_sld hc hs hi_254 dL_law_1012 ?_
      refine r_callVi (d := 1) hc (m_X7_tunings h) cw_X7_tunings wi_X7_tunings ws_X7_tunings lm_L_126 (by decide) (by decide) rv_X7 rfl rfl (Nat.le_of_ble_eq_true rfl) dL_law_1013 (fun r_256 σ_255 h => ?_)
      refine r_ic_eq hc 1345 dL_law_1016 (by decide) (fun q => ?_) (fun q => ?_)
      · have h := kif_t h q
        obtain ⟨x3_257, ex3_257⟩ : ∃ v : Int32, v = x3 + 6 := ⟨_, rfl⟩
        have h := h x3_257 ex3_257
        refine r_iinc (v := x3_257) hc 3 [(3, .int x3_257), (0, .ref b), (1, kz g 0), (2, kz g 55)] dL_law_1345 rfl (by rw [ex3_257]; rfl) (by decide) rfl ?_
        refine r_goto hc 18 dL_law_1348 (by decide) ?_
        refine r_sub [1, 2, 3, 0] rfl ?_
        exact hK _ _ h
      · have h := kif_f h q
        refine r_iconst (v := 0) hc dL_law_1019 rfl ?_
        exact r_iret (ls0 := []) hZ dL_law_1020 h
    have h := kif_f h q_258
    have zq_258 : w_2.toInt ≠ 26 := ktne q_258
    by_cases q_268 : w_2 = 27
    · have h := kif_t h q_268
      refine r_tabIn hc 1021 dL_law_33 (by rw [q_268]; decide) (by rw [q_268]; decide) (by rw [q_268] <;> rfl) (by decide) ?_
      refine r_aload_n hc 1 dL_law_1021 rfl ?_
      refine r_aload_n hc 0 dL_law_1022 rfl ?_
      refine r_iload_n hc 3 dL_law_1023 rfl ?_
      refine r_iconst (v := 1) hc dL_law_1024 rfl ?_
      refine r_iadd hc dL_law_1025 ?_
      obtain ⟨hi_259, h⟩ := h
      refine r_sld hc hs hi_259 dL_law_1026 ?_
      refine r_aload_n hc 0 dL_law_1027 rfl ?_
      refine r_iload_n hc 3 dL_law_1028 rfl ?_
      refine r_iconst (v := 2) hc dL_law_1029 rfl ?_
      refine r_iadd hc dL_law_1030 ?_
      obtain ⟨hi_260, h⟩ := h
      refine r_sld hc hs hi_260 dL_law_1031 ?_
      refine r_callVi (d := 3) hc (m_X6_other h) cw_X6_other wi_X6_other ws_X6_other lm_L_127 (by decide) (by decide) rv_X6 rfl rfl (Nat.le_of_ble_eq_true rfl) dL_law_1032 (fun r_262 σ_261 h => ?_)
      refine r_aload_n hc 2 dL_law_1035 rfl ?_
      refine r_aload_n hc 0 dL_law_1036 rfl ?_
      refine r_iload_n hc 3 dL_law_1037 rfl ?_
      refine r_iconst (v := 1) hc dL_law_1038 rfl ?_
      refine r_iadd hc dL_law_1039 ?_
      obtain ⟨hi_263, h⟩ := h
      refine r_sld hc hs hi_263 dL_law_1040 ?_
      refine r_aload_n hc 0 dL_law_1041 rfl ?_
      refine r_iload_n hc 3 dL_law_1042 rfl ?_
      refine r_iconst (v := 2) hc dL_law_1043 rfl ?_
      refine r_iadd hc dL_law_1044 ?_
      obtain ⟨hi_264, h⟩ := h
      refine r_sld hc hs hi_264 dL_law_1045 ?_
      refine r_callVi (d := 2) hc (m_X7_other h) cw_X7_other wi_X7_other ws_X7_other lm_L_130 (by decide) (by decide) rv_X7 rfl rfl (Nat.le_of_ble_eq_true rfl) dL_law_1046 (fun r_266 σ_265 h => ?_)
      refine r_ic_eq hc 1345 dL_law_1049 (by decide) (fun q => ?_) (fun q => ?_)
      · have h := kif_t h q
        obtain ⟨x3_267, ex3_267⟩ : ∃ v : Int32, v = x3 + 6 := ⟨_, rfl⟩
        have h := h x3_267 ex3_267
        refine r_iinc (v := x3_267) hc 3 [(3, .int x3_267), (0, .ref b), (1, kz g 0), (2, kz g 55)] dL_law_1345 rfl (by rw [ex3_267]; rfl) (by decide) rfl ?_
        refine r_goto hc 18 dL_law_1348 (by decide) ?_
        refine r_sub [1, 2, 3, 0] rfl ?_
        exact hK _ _ h
      · have h := kif_f h q
        refine r_iconst (v := 0) hc dL_law_1052 rfl ?_
        exact r_iret (ls0 := []) hZ dL_law_1053 h
    have h := kif_f h q_268
    have zq_268 : w_2.toInt ≠ 27 := ktne q_268
    by_cases q_282 : w_2 = 28
    · have h := kif_t h q_282
      refine r_tabIn hc 1054 dL_law_33 (by rw [q_282]; decide) (by rw [q_282]; decide) (by rw [q_282] <;> rfl) (by decide) ?_
      refine r_aload_n hc 1 dL_law_1054 rfl ?_
      refine r_aload_n hc 0 dL_law_1055 rfl ?_
      refine r_iload_n hc 3 dL_law_1056 rfl ?_
      refine r_iconst (v := 1) hc dL_law_1057 rfl ?_
      refine r_iadd hc dL_law_1058 ?_
      obtain ⟨hi_269, h⟩ := h
      refine r_sld hc hs hi_269 dL_law_1059 ?_
      refine r_aload_n hc 0 dL_law_1060 rfl ?_
      refine r_iload_n hc 3 dL_law_1061 rfl ?_
      refine r_iconst (v := 2) hc dL_law_1062 rfl ?_
      refine r_iadd hc dL_law_1063 ?_
      obtain ⟨hi_270, h⟩ := h
      refine r_sld hc hs hi_270 dL_law_1064 ?_
      refine r_aload_n hc 0 dL_law_1065 rfl ?_
      refine r_iload_n hc 3 dL_law_1066 rfl ?_
      refine r_iconst (v := 3) hc dL_law_1067 rfl ?_
      refine r_iadd hc dL_law_1068 ?_
      obtain ⟨hi_271, h⟩ := h
      refine r_sld hc hs hi_271 dL_law_1069 ?_
      refine r_aload_n hc 0 dL_law_1070 rfl ?_
      refine r_iload_n hc 3 dL_law_1071 rfl ?_
      refine r_iconst (v := 4) hc dL_law_1072 rfl ?_
      refine r_iadd hc dL_law_1073 ?_
      obtain ⟨hi_272, h⟩ := h
      refine r_sld hc hs hi_272 dL_law_1074 ?_
      refine r_callVl (d := 3) hc (m_X6_thunderOdds h) cw_X6_thunderOdds wi_X6_thunderOdds ws_X6_thunderOdds lm_L_131 (by decide) (by decide) rv_X6 rfl rfl (Nat.le_of_ble_eq_true rfl) dL_law_1075 (fun r_274 σ_273 h => ?_)
      refine r_aload_n hc 2 dL_law_1078 rfl ?_
      refine r_aload_n hc 0 dL_law_1079 rfl ?_
      refine r_iload_n hc 3 dL_law_1080 rfl ?_
      refine r_iconst (v := 1) hc dL_law_1081 rfl ?_
      refine r_iadd hc dL_law_1082 ?_
      obtain ⟨hi_275, h⟩ := h
      refine r_sld hc hs hi_275 dL_law_1083 ?_
      refine r_aload_n hc 0 dL_law_1084 rfl ?_
      refine r_iload_n hc 3 dL_law_1085 rfl ?_
      refine r_iconst (v := 2) hc dL_law_1086 rfl ?_
      refine r_iadd hc dL_law_1087 ?_
      obtain ⟨hi_276, h⟩ := h
      refine r_sld hc hs hi_276 dL_law_1088 ?_
      refine r_aload_n hc 0 dL_law_1089 rfl ?_
      refine r_iload_n hc 3 dL_law_1090 rfl ?_
      refine r_iconst (v := 3) hc dL_law_1091 rfl ?_
      refine r_iadd hc dL_law_1092 ?_
      obtain ⟨hi_277, h⟩ := h
      refine r_sld hc hs hi_277 dL_law_1093 ?_
      refine r_aload_n hc 0 dL_law_1094 rfl ?_
      refine r_iload_n hc 3 dL_law_1095 rfl ?_
      refine r_iconst (v := 4) hc dL_law_1096 rfl ?_
      refine r_iadd hc dL_law_1097 ?_
      obtain ⟨hi_278, h⟩ := h
      refine r_sld hc hs hi_278 dL_law_1098 ?_
      refine r_callVl (d := 3) hc (m_X7_thunderOdds h) cw_X7_thunderOdds wi_X7_thunderOdds ws_X7_thunderOdds lm_L_135 (by decide) (by decide) rv_X7 rfl rfl (Nat.le_of_ble_eq_true rfl) dL_law_1099 (fun r_280 σ_279 h => ?_)
      refine r_lcmp hc dL_law_1102 ?_
      refine r_if_eq hc 1345 dL_law_1103 (by decide) (fun q => ?_) (fun q => ?_)
      · have h := kif_t h q
        obtain ⟨x3_281, ex3_281⟩ : ∃ v : Int32, v = x3 + 6 := ⟨_, rfl⟩
        have h := h x3_281 ex3_281
        refine r_iinc (v := x3_281) hc 3 [(3, .int x3_281), (0, .ref b), (1, kz g 0), (2, kz g 55)] dL_law_1345 rfl (by rw [ex3_281]; rfl) (by decide) rfl ?_
        refine r_goto hc 18 dL_law_1348 (by decide) ?_
        refine r_sub [1, 2, 3, 0] rfl ?_
        exact hK _ _ h
      · have h := kif_f h q
        refine r_iconst (v := 0) hc dL_law_1106 rfl ?_
        exact r_iret (ls0 := []) hZ dL_law_1107 h
    have h := kif_f h q_282
    have zq_282 : w_2.toInt ≠ 28 := ktne q_282
    by_cases q_294 : w_2 = 29
    · have h := kif_t h q_294
      refine r_tabIn hc 1108 dL_law_33 (by rw [q_294]; decide) (by rw [q_294]; decide) (by rw [q_294] <;> rfl) (by decide) ?_
      refine r_aload_n hc 1 dL_law_1108 rfl ?_
      refine r_aload_n hc 0 dL_law_1109 rfl ?_
      refine r_iload_n hc 3 dL_law_1110 rfl ?_
      refine r_iconst (v := 1) hc dL_law_1111 rfl ?_
      refine r_iadd hc dL_law_1112 ?_
      obtain ⟨hi_283, h⟩ := h
      refine r_sld hc hs hi_283 dL_law_1113 ?_
      refine r_aload_n hc 0 dL_law_1114 rfl ?_
      refine r_iload_n hc 3 dL_law_1115 rfl ?_
      refine r_iconst (v := 2) hc dL_law_1116 rfl ?_
      refine r_iadd hc dL_law_1117 ?_
      obtain ⟨hi_284, h⟩ := h
      refine r_sld hc hs hi_284 dL_law_1118 ?_
      refine r_aload_n hc 0 dL_law_1119 rfl ?_
      refine r_iload_n hc 3 dL_law_1120 rfl ?_
      refine r_iconst (v := 3) hc dL_law_1121 rfl ?_
      refine r_iadd hc dL_law_1122 ?_
      obtain ⟨hi_285, h⟩ := h
      refine r_sld hc hs hi_285 dL_law_1123 ?_
      refine r_callVi (d := 5) hc (m_X6_drawn h) cw_X6_drawn wi_X6_drawn ws_X6_drawn lm_L_136 (by decide) (by decide) rv_X6 rfl rfl (Nat.le_of_ble_eq_true rfl) dL_law_1124 (fun r_287 σ_286 h => ?_)
      refine r_aload_n hc 2 dL_law_1127 rfl ?_
      refine r_aload_n hc 0 dL_law_1128 rfl ?_
      refine r_iload_n hc 3 dL_law_1129 rfl ?_
      refine r_iconst (v := 1) hc dL_law_1130 rfl ?_
      refine r_iadd hc dL_law_1131 ?_
      obtain ⟨hi_288, h⟩ := h
      refine r_sld hc hs hi_288 dL_law_1132 ?_
      refine r_aload_n hc 0 dL_law_1133 rfl ?_
      refine r_iload_n hc 3 dL_law_1134 rfl ?_
      refine r_iconst (v := 2) hc dL_law_1135 rfl ?_
      refine r_iadd hc dL_law_1136 ?_
      obtain ⟨hi_289, h⟩ := h
      refine r_sld hc hs hi_289 dL_law_1137 ?_
      refine r_aload_n hc 0 dL_law_1138 rfl ?_
      refine r_iload_n hc 3 dL_law_1139 rfl ?_
      refine r_iconst (v := 3) hc dL_law_1140 rfl ?_
      refine r_iadd hc dL_law_1141 ?_
      obtain ⟨hi_290, h⟩ := h
      refine r_sld hc hs hi_290 dL_law_1142 ?_
      refine r_callVi (d := 3) hc (m_X7_drawn h) cw_X7_drawn wi_X7_drawn ws_X7_drawn lm_L_139 (by decide) (by decide) rv_X7 rfl rfl (Nat.le_of_ble_eq_true rfl) dL_law_1143 (fun r_292 σ_291 h => ?_)
      refine r_ic_eq hc 1345 dL_law_1146 (by decide) (fun q => ?_) (fun q => ?_)
      · have h := kif_t h q
        obtain ⟨x3_293, ex3_293⟩ : ∃ v : Int32, v = x3 + 6 := ⟨_, rfl⟩
        have h := h x3_293 ex3_293
        refine r_iinc (v := x3_293) hc 3 [(3, .int x3_293), (0, .ref b), (1, kz g 0), (2, kz g 55)] dL_law_1345 rfl (by rw [ex3_293]; rfl) (by decide) rfl ?_
        refine r_goto hc 18 dL_law_1348 (by decide) ?_
        refine r_sub [1, 2, 3, 0] rfl ?_
        exact hK _ _ h
      · have h := kif_f h q
        refine r_iconst (v := 0) hc dL_law_1149 rfl ?_
        exact r_iret (ls0 := []) hZ dL_law_1150 h
    have h := kif_f h q_294
    have zq_294 : w_2.toInt ≠ 29 := ktne q_294
    by_cases q_302 : w_2 = 30
    · have h := kif_t h q_302
      refine r_tabIn hc 1151 dL_law_33 (by rw [q_302]; decide) (by rw [q_302]; decide) (by rw [q_302] <;> rfl) (by decide) ?_
      refine r_aload_n hc 1 dL_law_1151 rfl ?_
      refine r_aload_n hc 0 dL_law_1152 rfl ?_
      refine r_iload_n hc 3 dL_law_1153 rfl ?_
      refine r_iconst (v := 1) hc dL_law_1154 rfl ?_
      refine r_iadd hc dL_law_1155 ?_
      obtain ⟨hi_295, h⟩ := h
      refine r_sld hc hs hi_295 dL_law_1156 ?_
      refine r_callVi (d := 2) hc (m_X6_image h) cw_X6_image wi_X6_image ws_X6_image lm_L_140 (by decide) (by decide) rv_X6 rfl rfl (Nat.le_of_ble_eq_true rfl) dL_law_1157 (fun r_297 σ_296 h => ?_)
      refine r_aload_n hc 2 dL_law_1160 rfl ?_
      refine r_aload_n hc 0 dL_law_1161 rfl ?_
      refine r_iload_n hc 3 dL_law_1162 rfl ?_
      refine r_iconst (v := 1) hc dL_law_1163 rfl ?_
      refine r_iadd hc dL_law_1164 ?_
      obtain ⟨hi_298, h⟩ := h
      refine r_sld hc hs hi_298 dL_law_1165 ?_
      refine r_callVi (d := 1) hc (m_X7_image h) cw_X7_image wi_X7_image ws_X7_image lm_L_143 (by decide) (by decide) rv_X7 rfl rfl (Nat.le_of_ble_eq_true rfl) dL_law_1166 (fun r_300 σ_299 h => ?_)
      refine r_ic_eq hc 1345 dL_law_1169 (by decide) (fun q => ?_) (fun q => ?_)
      · have h := kif_t h q
        obtain ⟨x3_301, ex3_301⟩ : ∃ v : Int32, v = x3 + 6 := ⟨_, rfl⟩
        have h := h x3_301 ex3_301
        refine r_iinc (v := x3_301) hc 3 [(3, .int x3_301), (0, .ref b), (1, kz g 0), (2, kz g 55)] dL_law_1345 rfl (by rw [ex3_301]; rfl) (by decide) rfl ?_
        refine r_goto hc 18 dL_law_1348 (by decide) ?_
        refine r_sub [1, 2, 3, 0] rfl ?_
        exact hK _ _ h
      · have h := kif_f h q
        refine r_iconst (v := 0) hc dL_law_1172 rfl ?_
        exact r_iret (ls0 := []) hZ dL_law_1173 h
    have h := kif_f h q_302
    have zq_302 : w_2.toInt ≠ 30 := ktne q_302
    by_cases q_310 : w_2 = 31
    · have h := kif_t h q_310
      refine r_tabIn hc 1174 dL_law_33 (by rw [q_310]; decide) (by rw [q_310]; decide) (by rw [q_310] <;> rfl) (by decide) ?_
      refine r_aload_n hc 1 dL_law_1174 rfl ?_
      refine r_aload_n hc 0 dL_law_1175 rfl ?_
      refine r_iload_n hc 3 dL_law_1176 rfl ?_
      refine r_iconst (v := 1) hc dL_law_1177 rfl ?_
      refine r_iadd hc dL_law_1178 ?_
      obtain ⟨hi_303, h⟩ := h
      refine r_sld hc hs hi_303 dL_law_1179 ?_
      refine r_callVi (d := 2) hc (m_X6_restore h) cw_X6_restore wi_X6_restore ws_X6_restore lm_L_144 (by decide) (by decide) rv_X6 rfl rfl (Nat.le_of_ble_eq_true rfl) dL_law_1180 (fun r_305 σ_304 h => ?_)
      refine r_aload_n hc 2 dL_law_1183 rfl ?_
      refine r_aload_n hc 0 dL_law_1184 rfl ?_
      refine r_iload_n hc 3 dL_law_1185 rfl ?_
      refine r_iconst (v := 1) hc dL_law_1186 rfl ?_
      refine r_iadd hc dL_law_1187 ?_
      obtain ⟨hi_306, h⟩ := h
      refine r_sld hc hs hi_306 dL_law_1188 ?_
      refine r_callVi (d := 1) hc (m_X7_restore h) cw_X7_restore wi_X7_restore ws_X7_restore lm_L_147 (by decide) (by decide) rv_X7 rfl rfl (Nat.le_of_ble_eq_true rfl) dL_law_1189 (fun r_308 σ_307 h => ?_)
      refine r_ic_eq hc 1345 dL_law_1192 (by decide) (fun q => ?_) (fun q => ?_)
      · have h := kif_t h q
        obtain ⟨x3_309, ex3_309⟩ : ∃ v : Int32, v = x3 + 6 := ⟨_, rfl⟩
        have h := h x3_309 ex3_309
        refine r_iinc (v := x3_309) hc 3 [(3, .int x3_309), (0, .ref b), (1, kz g 0), (2, kz g 55)] dL_law_1345 rfl (by rw [ex3_309]; rfl) (by decide) rfl ?_
        refine r_goto hc 18 dL_law_1348 (by decide) ?_
        refine r_sub [1, 2, 3, 0] rfl ?_
        exact hK _ _ h
      · have h := kif_f h q
        refine r_iconst (v := 0) hc dL_law_1195 rfl ?_
        exact r_iret (ls0 := []) hZ dL_law_1196 h
    have h := kif_f h q_310
    have zq_310 : w_2.toInt ≠ 31 := ktne q_310
    by_cases q_318 : w_2 = 32
    · have h := kif_t h q_318
      refine r_tabIn hc 1197 dL_law_33 (by rw [q_318]; decide) (by rw [q_318]; decide) (by rw [q_318] <;> rfl) (by decide) ?_
      refine r_aload_n hc 1 dL_law_1197 rfl ?_
      refine r_aload_n hc 0 dL_law_1198 rfl ?_
      refine r_iload_n hc 3 dL_law_1199 rfl ?_
      refine r_iconst (v := 1) hc dL_law_1200 rfl ?_
      refine r_iadd hc dL_law_1201 ?_
      obtain ⟨hi_311, h⟩ := h
      refine r_sld hc hs hi_311 dL_law_1202 ?_
      refine r_callVi (d := 1) hc (m_X6_kind h) cw_X6_kind wi_X6_kind ws_X6_kind lm_L_148 (by decide) (by decide) rv_X6 rfl rfl (Nat.le_of_ble_eq_true rfl) dL_law_1203 (fun r_313 σ_312 h => ?_)
      refine r_aload_n hc 2 dL_law_1206 rfl ?_
      refine r_aload_n hc 0 dL_law_1207 rfl ?_
      refine r_iload_n hc 3 dL_law_1208 rfl ?_
      refine r_iconst (v := 1) hc dL_law_1209 rfl ?_
      refine r_iadd hc dL_law_1210 ?_
      obtain ⟨hi_314, h⟩ := h
      refine r_sld hc hs hi_314 dL_law_1211 ?_
      refine r_callVi (d := 2) hc (m_X7_kind h) cw_X7_kind wi_X7_kind ws_X7_kind lm_L_151 (by decide) (by decide) rv_X7 rfl rfl (Nat.le_of_ble_eq_true rfl) dL_law_1212 (fun r_316 σ_315 h => ?_)
      refine r_ic_eq hc 1345 dL_law_1215 (by decide) (fun q => ?_) (fun q => ?_)
      · have h := kif_t h q
        obtain ⟨x3_317, ex3_317⟩ : ∃ v : Int32, v = x3 + 6 := ⟨_, rfl⟩
        have h := h x3_317 ex3_317
        refine r_iinc (v := x3_317) hc 3 [(3, .int x3_317), (0, .ref b), (1, kz g 0), (2, kz g 55)] dL_law_1345 rfl (by rw [ex3_317]; rfl) (by decide) rfl ?_
        refine r_goto hc 18 dL_law_1348 (by decide) ?_
        refine r_sub [1, 2, 3, 0] rfl ?_
        exact hK _ _ h
      · have h := kif_f h q
        refine r_iconst (v := 0) hc dL_law_1218 rfl ?_
        exact r_iret (ls0 := []) hZ dL_law_1219 h
    have h := kif_f h q_318
    have zq_318 : w_2.toInt ≠ 32 := ktne q_318
    by_cases q_328 : w_2 = 33
    · have h := kif_t h q_328
      refine r_tabIn hc 1220 dL_law_33 (by rw [q_328]; decide) (by rw [q_328]; decide) (by rw [q_328] <;> rfl) (by decide) ?_
      refine r_aload_n hc 1 dL_law_1220 rfl ?_
      refine r_aload_n hc 0 dL_law_1221 rfl ?_
      refine r_iload_n hc 3 dL_law_1222 rfl ?_
      refine r_iconst (v := 1) hc dL_law_1223 rfl ?_
      refine r_iadd hc dL_law_1224 ?_
      obtain ⟨hi_319, h⟩ := h
      refine r_sld hc hs hi_319 dL_law_1225 ?_
      refine r_aload_n hc 0 dL_law_1226 rfl ?_
      refine r_iload_n hc 3 dL_law_1227 rfl ?_
      refine r_iconst (v := 2) hc dL_law_1228 rfl ?_
      refine r_iadd hc dL_law_1229 ?_
      obtain ⟨hi_320, h⟩ := h
      refine r_sld hc hs hi_320 dL_law_1230 ?_
      refine r_callVi (d := 1) hc (m_X6_as h) cw_X6_as wi_X6_as ws_X6_as lm_L_152 (by decide) (by decide) rv_X6 rfl rfl (Nat.le_of_ble_eq_true rfl) dL_law_1231 (fun r_322 σ_321 h => ?_)
      refine r_aload_n hc 2 dL_law_1234 rfl ?_
      refine r_aload_n hc 0 dL_law_1235 rfl ?_
      refine r_iload_n hc 3 dL_law_1236 rfl ?_
      refine r_iconst (v := 1) hc dL_law_1237 rfl ?_
      refine r_iadd hc dL_law_1238 ?_
      obtain ⟨hi_323, h⟩ := h
      refine r_sld hc hs hi_323 dL_law_1239 ?_
      refine r_aload_n hc 0 dL_law_1240 rfl ?_
      refine r_iload_n hc 3 dL_law_1241 rfl ?_
      refine r_iconst (v := 2) hc dL_law_1242 rfl ?_
      refine r_iadd hc dL_law_1243 ?_
      obtain ⟨hi_324, h⟩ := h
      refine r_sld hc hs hi_324 dL_law_1244 ?_
      refine r_callVi (d := 2) hc (m_X7_as h) cw_X7_as wi_X7_as ws_X7_as lm_L_155 (by decide) (by decide) rv_X7 rfl rfl (Nat.le_of_ble_eq_true rfl) dL_law_1245 (fun r_326 σ_325 h => ?_)
      refine r_ic_eq hc 1345 dL_law_1248 (by decide) (fun q => ?_) (fun q => ?_)
      · have h := kif_t h q
        obtain ⟨x3_327, ex3_327⟩ : ∃ v : Int32, v = x3 + 6 := ⟨_, rfl⟩
        have h := h x3_327 ex3_327
        refine r_iinc (v := x3_327) hc 3 [(3, .int x3_327), (0, .ref b), (1, kz g 0), (2, kz g 55)] dL_law_1345 rfl (by rw [ex3_327]; rfl) (by decide) rfl ?_
        refine r_goto hc 18 dL_law_1348 (by decide) ?_
        refine r_sub [1, 2, 3, 0] rfl ?_
        exact hK _ _ h
      · have h := kif_f h q
        refine r_iconst (v := 0) hc dL_law_1251 rfl ?_
        exact r_iret (ls0 := []) hZ dL_law_1252 h
    have h := kif_f h q_328
    have zq_328 : w_2.toInt ≠ 33 := ktne q_328
    by_cases q_338 : w_2 = 34
    · have h := kif_t h q_338
      refine r_tabIn hc 1253 dL_law_33 (by rw [q_338]; decide) (by rw [q_338]; decide) (by rw [q_338] <;> rfl) (by decide) ?_
      refine r_aload_n hc 1 dL_law_1253 rfl ?_
      refine r_aload_n hc 0 dL_law_1254 rfl ?_
      refine r_iload_n hc 3 dL_law_1255 rfl ?_
      refine r_iconst (v := 1) hc dL_law_1256 rfl ?_
      refine r_iadd hc dL_law_1257 ?_
      obtain ⟨hi_329, h⟩ := h
      refine r_sld hc hs hi_329 dL_law_1258 ?_
      refine r_aload_n hc 0 dL_law_1259 rfl ?_
      refine r_iload_n hc 3 dL_law_1260 rfl ?_
      refine r_iconst (v := 2) hc dL_law_1261 rfl ?_
      refine r_iadd hc dL_law_1262 ?_
      obtain ⟨hi_330, h⟩ := h
      refine r_sld hc hs hi_330 dL_law_1263 ?_
      refine r_callVi (d := 6) hc (m_X6_ask h) cw_X6_ask wi_X6_ask ws_X6_ask lm_L_156 (by decide) (by decide) rv_X6 rfl rfl (Nat.le_of_ble_eq_true rfl) dL_law_1264 (fun r_332 σ_331 h => ?_)
      refine r_aload_n hc 2 dL_law_1267 rfl ?_
      refine r_aload_n hc 0 dL_law_1268 rfl ?_
      refine r_iload_n hc 3 dL_law_1269 rfl ?_
      refine r_iconst (v := 1) hc dL_law_1270 rfl ?_
      refine r_iadd hc dL_law_1271 ?_
      obtain ⟨hi_333, h⟩ := h
      refine r_sld hc hs hi_333 dL_law_1272 ?_
      refine r_aload_n hc 0 dL_law_1273 rfl ?_
      refine r_iload_n hc 3 dL_law_1274 rfl ?_
      refine r_iconst (v := 2) hc dL_law_1275 rfl ?_
      refine r_iadd hc dL_law_1276 ?_
      obtain ⟨hi_334, h⟩ := h
      refine r_sld hc hs hi_334 dL_law_1277 ?_
      refine r_callVi (d := 7) hc (m_X7_ask h) cw_X7_ask wi_X7_ask ws_X7_ask lm_L_159 (by decide) (by decide) rv_X7 rfl rfl (Nat.le_of_ble_eq_true rfl) dL_law_1278 (fun r_336 σ_335 h => ?_)
      refine r_ic_eq hc 1345 dL_law_1281 (by decide) (fun q => ?_) (fun q => ?_)
      · have h := kif_t h q
        obtain ⟨x3_337, ex3_337⟩ : ∃ v : Int32, v = x3 + 6 := ⟨_, rfl⟩
        have h := h x3_337 ex3_337
        refine r_iinc (v := x3_337) hc 3 [(3, .int x3_337), (0, .ref b), (1, kz g 0), (2, kz g 55)] dL_law_1345 rfl (by rw [ex3_337]; rfl) (by decide) rfl ?_
        refine r_goto hc 18 dL_law_1348 (by decide) ?_
        refine r_sub [1, 2, 3, 0] rfl ?_
        exact hK _ _ h
      · have h := kif_f h q
        refine r_iconst (v := 0) hc dL_law_1284 rfl ?_
        exact r_iret (ls0 := []) hZ dL_law_1285 h
    have h := kif_f h q_338
    have zq_338 : w_2.toInt ≠ 34 := ktne q_338
    by_cases q_346 : w_2 = 35
    · have h := kif_t h q_346
      refine r_tabIn hc 1286 dL_law_33 (by rw [q_346]; decide) (by rw [q_346]; decide) (by rw [q_346] <;> rfl) (by decide) ?_
      refine r_aload_n hc 1 dL_law_1286 rfl ?_
      refine r_aload_n hc 0 dL_law_1287 rfl ?_
      refine r_iload_n hc 3 dL_law_1288 rfl ?_
      refine r_iconst (v := 1) hc dL_law_1289 rfl ?_
      refine r_iadd hc dL_law_1290 ?_
      obtain ⟨hi_339, h⟩ := h
      refine r_sld hc hs hi_339 dL_law_1291 ?_
      refine r_callVi (d := 0) hc (m_X6_trace h) cw_X6_trace wi_X6_trace ws_X6_trace lm_L_160 (by decide) (by decide) rv_X6 rfl rfl (Nat.le_of_ble_eq_true rfl) dL_law_1292 (fun r_341 σ_340 h => ?_)
      refine r_aload_n hc 2 dL_law_1295 rfl ?_
      refine r_aload_n hc 0 dL_law_1296 rfl ?_
      refine r_iload_n hc 3 dL_law_1297 rfl ?_
      refine r_iconst (v := 1) hc dL_law_1298 rfl ?_
      refine r_iadd hc dL_law_1299 ?_
      obtain ⟨hi_342, h⟩ := h
      refine r_sld hc hs hi_342 dL_law_1300 ?_
      refine r_callVi (d := 1) hc (m_X7_trace h) cw_X7_trace wi_X7_trace ws_X7_trace lm_L_163 (by decide) (by decide) rv_X7 rfl rfl (Nat.le_of_ble_eq_true rfl) dL_law_1301 (fun r_344 σ_343 h => ?_)
      refine r_ic_eq hc 1345 dL_law_1304 (by decide) (fun q => ?_) (fun q => ?_)
      · have h := kif_t h q
        obtain ⟨x3_345, ex3_345⟩ : ∃ v : Int32, v = x3 + 6 := ⟨_, rfl⟩
        have h := h x3_345 ex3_345
        refine r_iinc (v := x3_345) hc 3 [(3, .int x3_345), (0, .ref b), (1, kz g 0), (2, kz g 55)] dL_law_1345 rfl (by rw [ex3_345]; rfl) (by decide) rfl ?_
        refine r_goto hc 18 dL_law_1348 (by decide) ?_
        refine r_sub [1, 2, 3, 0] rfl ?_
        exact hK _ _ h
      · have h := kif_f h q
        refine r_iconst (v := 0) hc dL_law_1307 rfl ?_
        exact r_iret (ls0 := []) hZ dL_law_1308 h
    have h := kif_f h q_346
    have zq_346 : w_2.toInt ≠ 35 := ktne q_346
    by_cases q_354 : w_2 = 36
    · have h := kif_t h q_354
      refine r_tabIn hc 1309 dL_law_33 (by rw [q_354]; decide) (by rw [q_354]; decide) (by rw [q_354] <;> rfl) (by decide) ?_
      refine r_aload_n hc 1 dL_law_1309 rfl ?_
      refine r_aload_n hc 0 dL_law_1310 rfl ?_
      refine r_iload_n hc 3 dL_law_1311 rfl ?_
      refine r_iconst (v := 1) hc dL_law_1312 rfl ?_
      refine r_iadd hc dL_law_1313 ?_
      obtain ⟨hi_347, h⟩ := h
      refine r_sld hc hs hi_347 dL_law_1314 ?_
      refine r_callVi (d := 2) hc (m_X6_count h) cw_X6_count wi_X6_count ws_X6_count lm_L_164 (by decide) (by decide) rv_X6 rfl rfl (Nat.le_of_ble_eq_true rfl) dL_law_1315 (fun r_349 σ_348 h => ?_)
      refine r_aload_n hc 2 dL_law_1318 rfl ?_
      refine r_aload_n hc 0 dL_law_1319 rfl ?_
      refine r_iload_n hc 3 dL_law_1320 rfl ?_
      refine r_iconst (v := 1) hc dL_law_1321 rfl ?_
      refine r_iadd hc dL_law_1322 ?_
      obtain ⟨hi_350, h⟩ := h
      refine r_sld hc hs hi_350 dL_law_1323 ?_
      refine r_callVi (d := 0) hc (m_X7_count h) cw_X7_count wi_X7_count ws_X7_count lm_L_167 (by decide) (by decide) rv_X7 rfl rfl (Nat.le_of_ble_eq_true rfl) dL_law_1324 (fun r_352 σ_351 h => ?_)
      refine r_ic_eq hc 1345 dL_law_1327 (by decide) (fun q => ?_) (fun q => ?_)
      · have h := kif_t h q
        obtain ⟨x3_353, ex3_353⟩ : ∃ v : Int32, v = x3 + 6 := ⟨_, rfl⟩
        have h := h x3_353 ex3_353
        refine r_iinc (v := x3_353) hc 3 [(3, .int x3_353), (0, .ref b), (1, kz g 0), (2, kz g 55)] dL_law_1345 rfl (by rw [ex3_353]; rfl) (by decide) rfl ?_
        refine r_goto hc 18 dL_law_1348 (by decide) ?_
        refine r_sub [1, 2, 3, 0] rfl ?_
        exact hK _ _ h
      · have h := kif_f h q
        refine r_iconst (v := 0) hc dL_law_1330 rfl ?_
        exact r_iret (ls0 := []) hZ dL_law_1331 h
    have h := kif_f h q_354
    have zq_354 : w_2.toInt ≠ 36 := ktne q_354
    by_cases q_360 : w_2 = 37
    · have h := kif_t h q_360
      refine r_tabIn hc 1332 dL_law_33 (by rw [q_360]; decide) (by rw [q_360]; decide) (by rw [q_360] <;> rfl) (by decide) ?_
      refine r_aload_n hc 1 dL_law_1332 rfl ?_
      refine r_callVi (d := 0) hc (m_X6_status h) cw_X6_status wi_X6_status ws_X6_status lm_L_168 (by decide) (by decide) rv_X6 rfl rfl (Nat.le_of_ble_eq_true rfl) dL_law_1333 (fun r_356 σ_355 h => ?_)
      refine r_aload_n hc 2 dL_law_1336 rfl ?_
      refine r_callVi (d := 0) hc (m_X7_status h) cw_X7_status wi_X7_status ws_X7_status lm_L_171 (by decide) (by decide) rv_X7 rfl rfl (Nat.le_of_ble_eq_true rfl) dL_law_1337 (fun r_358 σ_357 h => ?_)
      refine r_ic_eq hc 1345 dL_law_1340 (by decide) (fun q => ?_) (fun q => ?_)
      · have h := kif_t h q
        obtain ⟨x3_359, ex3_359⟩ : ∃ v : Int32, v = x3 + 6 := ⟨_, rfl⟩
        have h := h x3_359 ex3_359
        refine r_iinc (v := x3_359) hc 3 [(3, .int x3_359), (0, .ref b), (1, kz g 0), (2, kz g 55)] dL_law_1345 rfl (by rw [ex3_359]; rfl) (by decide) rfl ?_
        refine r_goto hc 18 dL_law_1348 (by decide) ?_
        refine r_sub [1, 2, 3, 0] rfl ?_
        exact hK _ _ h
      · have h := kif_f h q
        refine r_iconst (v := 0) hc dL_law_1343 rfl ?_
        exact r_iret (ls0 := []) hZ dL_law_1344 h
    have h := kif_f h q_360
    have zq_360 : w_2.toInt ≠ 37 := ktne q_360
    refine r_tabOut hc 1345 dL_law_33 (by omega) (by decide) ?_
    obtain ⟨x3_361, ex3_361⟩ : ∃ v : Int32, v = x3 + 6 := ⟨_, rfl⟩
    have h := h x3_361 ex3_361
    refine r_iinc (v := x3_361) hc 3 [(3, .int x3_361), (0, .ref b), (1, kz g 0), (2, kz g 55)] dL_law_1345 rfl (by rw [ex3_361]; rfl) (by decide) rfl ?_
    refine r_goto hc 18 dL_law_1348 (by decide) ?_
    refine r_sub [1, 2, 3, 0] rfl ?_
    exact hK _ _ h
theorem sl_L_law_18 {X : kX} {g : kG} {N : Nat} {Q : Int32 → kS → Prop} {b L : Nat} {xs : Nat → Int32} (hs : kSc X b L xs g) (hc : kOk X g RL cL_law 4 (some .boolean) 10) (hZ : kRi X g cL_law Q) : ∀ (n : Nat) (x3 : Int32) (σ : kS), l_L_law_18 N Q L xs n x3 σ → kP X g 4 18 [(0, .ref b), (1, kz g 0), (2, kz g 55), (3, .int x3)] [] σ := by
  intro n
  induction n with
  | zero => intro x3 σ h; exact h.elim
  | succ n ih => intro x3 σ h; exact sb_L_law_18 hs hc hZ ih h
