def kT : List Cond := lw_tbl.filter goodWord
theorem kT_of {w : Cond} (h : w ∈ lw_tbl) (hg : goodWord w = true) : w ∈ kT := List.mem_filter.mpr ⟨h, hg⟩
theorem kg_all {w : Cond} (h : w ∈ kT) : goodWord w = true := (List.mem_filter.mp h).2
theorem kT_in {w : Cond} (h : w ∈ kT) : w ∈ lw_tbl := (List.mem_filter.mp h).1
theorem mu_1 {w : Cond} (h : w ∈ tables_1_1) : w ∈ lw_tbl := List.mem_append_right _ (List.mem_append_left _ h)
theorem mt_1 {w : Cond} (h : w ∈ tables_1_1) (hg : goodWord w = true) : w ∈ kT := kT_of (List.mem_append_right _ (List.mem_append_left _ h)) hg
theorem mu_2 {w : Cond} (h : w ∈ tables_1_2) : w ∈ lw_tbl := List.mem_append_right _ (List.mem_append_right _ (List.mem_append_left _ h))
theorem mt_2 {w : Cond} (h : w ∈ tables_1_2) (hg : goodWord w = true) : w ∈ kT := kT_of (List.mem_append_right _ (List.mem_append_right _ (List.mem_append_left _ h))) hg
theorem mu_3 {w : Cond} (h : w ∈ tables_1_3) : w ∈ lw_tbl := List.mem_append_right _ (List.mem_append_right _ (List.mem_append_right _ (List.mem_append_left _ h)))
theorem mt_3 {w : Cond} (h : w ∈ tables_1_3) (hg : goodWord w = true) : w ∈ kT := kT_of (List.mem_append_right _ (List.mem_append_right _ (List.mem_append_right _ (List.mem_append_left _ h)))) hg
theorem mu_4 {w : Cond} (h : w ∈ tables_1_4) : w ∈ lw_tbl := List.mem_append_right _ (List.mem_append_right _ (List.mem_append_right _ (List.mem_append_right _ (List.mem_append_left _ h))))
theorem mt_4 {w : Cond} (h : w ∈ tables_1_4) (hg : goodWord w = true) : w ∈ kT := kT_of (List.mem_append_right _ (List.mem_append_right _ (List.mem_append_right _ (List.mem_append_right _ (List.mem_append_left _ h))))) hg
theorem mu_5 {w : Cond} (h : w ∈ tables_1_5) : w ∈ lw_tbl := List.mem_append_right _ (List.mem_append_right _ (List.mem_append_right _ (List.mem_append_right _ (List.mem_append_right _ (h)))))
theorem mt_5 {w : Cond} (h : w ∈ tables_1_5) (hg : goodWord w = true) : w ∈ kT := kT_of (List.mem_append_right _ (List.mem_append_right _ (List.mem_append_right _ (List.mem_append_right _ (List.mem_append_right _ (h)))))) hg
theorem wn_L : Cond.initialized RL ∈ kT := mt_1 (List.mem_of_getElem? (i := 0) rfl) rfl
theorem wn_X6 : Cond.initialized RX6 ∈ kT := mt_1 (List.mem_of_getElem? (i := 1) rfl) rfl
theorem wn_X4 : Cond.initialized RX4 ∈ kT := mt_1 (List.mem_of_getElem? (i := 2) rfl) rfl
theorem wn_X3 : Cond.initialized RX3 ∈ kT := mt_1 (List.mem_of_getElem? (i := 3) rfl) rfl
theorem wn_X5 : Cond.initialized RX5 ∈ kT := mt_1 (List.mem_of_getElem? (i := 4) rfl) rfl
theorem wn_X0 : Cond.initialized RX0 ∈ kT := mt_1 (List.mem_of_getElem? (i := 5) rfl) rfl
theorem wn_X2 : Cond.initialized RX2 ∈ kT := mt_1 (List.mem_of_getElem? (i := 6) rfl) rfl
theorem wn_X1 : Cond.initialized RX1 ∈ kT := mt_1 (List.mem_of_getElem? (i := 7) rfl) rfl
theorem wn_X7 : Cond.initialized RX7 ∈ kT := mt_1 (List.mem_of_getElem? (i := 8) rfl) rfl
theorem wn_J7 : Cond.initialized RJ7 ∈ kT := mt_1 (List.mem_of_getElem? (i := 9) rfl) rfl
theorem wn_J10 : Cond.initialized RJ10 ∈ kT := mt_1 (List.mem_of_getElem? (i := 10) rfl) rfl
theorem wn_J9 : Cond.initialized RJ9 ∈ kT := mt_1 (List.mem_of_getElem? (i := 11) rfl) rfl
theorem wn_J6 : Cond.initialized RJ6 ∈ kT := mt_1 (List.mem_of_getElem? (i := 12) rfl) rfl
theorem lc_L_7 : Cond.classLink RL 7 RX6 ∈ kT := mt_1 (List.mem_of_getElem? (i := 13) rfl) rfl
theorem wa_X6 : Cond.instantiable RX6 9 ∈ kT := mt_1 (List.mem_of_getElem? (i := 14) rfl) rfl
theorem lm_L_9 : Cond.methodLink RL 9 yX6_init ∈ kT := mt_1 (List.mem_of_getElem? (i := 15) rfl) rfl
theorem wi_X6_init : Cond.instanceMethod yX6_init ∈ kT := mt_1 (List.mem_of_getElem? (i := 16) rfl) rfl
theorem wc_X6_init : Cond.code yX6_init cX6_init 2 none ∈ kT := mt_1 (List.mem_of_getElem? (i := 17) rfl) rfl
theorem lm_X6_1 : Cond.methodLink RX6 1 objectInit ∈ kT := mt_1 (List.mem_of_getElem? (i := 18) rfl) rfl
theorem wi_O_init : Cond.instanceMethod objectInit ∈ kT := mt_1 (List.mem_of_getElem? (i := 19) rfl) rfl
theorem wc_O_init : Cond.code objectInit object_method_1_code 1 none ∈ kT := mt_1 (List.mem_of_getElem? (i := 20) rfl) rfl
theorem lc_X6_9 : Cond.classLink RX6 9 RX4 ∈ kT := mt_1 (List.mem_of_getElem? (i := 21) rfl) rfl
theorem wo_Row : Cond.arrayOver (.object "KeyDrift$Row") ∈ lw_tbl := mu_1 (List.mem_of_getElem? (i := 22) rfl)
theorem wa_X4 : Cond.instantiable RX4 3 ∈ kT := mt_1 (List.mem_of_getElem? (i := 23) rfl) rfl
theorem lmn_X6_15 : Cond.methodLinkNest RX6 15 yX4_init "KeyDrift" ∈ lw_tbl := mu_1 (List.mem_of_getElem? (i := 24) rfl)
theorem wi_X4_init : Cond.instanceMethod yX4_init ∈ kT := mt_1 (List.mem_of_getElem? (i := 25) rfl) rfl
theorem wc_X4_init : Cond.code yX4_init cX4_init 1 none ∈ kT := mt_1 (List.mem_of_getElem? (i := 26) rfl) rfl
theorem lm_X4_1 : Cond.methodLink RX4 1 objectInit ∈ kT := mt_1 (List.mem_of_getElem? (i := 27) rfl) rfl
theorem lf_X4_9 : Cond.fieldLink RX4 9 "KeyDrift$Row" "items" "[I" ∈ kT := mt_1 (List.mem_of_getElem? (i := 28) rfl) rfl
theorem lf_X6_95 : Cond.fieldLink RX6 95 "KeyDrift$Row" "items" "[I" ∈ kT := mt_1 (List.mem_of_getElem? (i := 29) rfl) rfl
theorem lf_X4_13 : Cond.fieldLink RX4 13 "KeyDrift$Row" "lane" "I" ∈ kT := mt_1 (List.mem_of_getElem? (i := 30) rfl) rfl
theorem lf_X6_91 : Cond.fieldLink RX6 91 "KeyDrift$Row" "lane" "I" ∈ kT := mt_1 (List.mem_of_getElem? (i := 31) rfl) rfl
theorem lf_X4_23 : Cond.fieldLink RX4 23 "KeyDrift$Row" "length" "I" ∈ kT := mt_1 (List.mem_of_getElem? (i := 32) rfl) rfl
theorem lf_X6_105 : Cond.fieldLink RX6 105 "KeyDrift$Row" "length" "I" ∈ kT := mt_1 (List.mem_of_getElem? (i := 33) rfl) rfl
theorem wy_int : Cond.arrayClass .int ∈ kT := mt_1 (List.mem_of_getElem? (i := 41) rfl) rfl
theorem lc_X6_16 : Cond.classLink RX6 16 RX3 ∈ kT := mt_1 (List.mem_of_getElem? (i := 42) rfl) rfl
theorem wo_Hall : Cond.arrayOver (.object "KeyDrift$Hall") ∈ lw_tbl := mu_1 (List.mem_of_getElem? (i := 43) rfl)
theorem wa_X3 : Cond.instantiable RX3 11 ∈ kT := mt_1 (List.mem_of_getElem? (i := 44) rfl) rfl
theorem lmn_X6_22 : Cond.methodLinkNest RX6 22 yX3_init "KeyDrift" ∈ lw_tbl := mu_1 (List.mem_of_getElem? (i := 45) rfl)
theorem wi_X3_init : Cond.instanceMethod yX3_init ∈ kT := mt_1 (List.mem_of_getElem? (i := 46) rfl) rfl
theorem wc_X3_init : Cond.code yX3_init cX3_init 1 none ∈ kT := mt_1 (List.mem_of_getElem? (i := 47) rfl) rfl
theorem lm_X3_3 : Cond.methodLink RX3 3 objectInit ∈ kT := mt_1 (List.mem_of_getElem? (i := 48) rfl) rfl
theorem lf_X3_11 : Cond.fieldLink RX3 11 "KeyDrift$Hall" "lengths" "[I" ∈ kT := mt_1 (List.mem_of_getElem? (i := 49) rfl) rfl
theorem lf_X5_81 : Cond.fieldLink RX5 81 "KeyDrift$Hall" "lengths" "[I" ∈ kT := mt_1 (List.mem_of_getElem? (i := 50) rfl) rfl
theorem lf_X6_174 : Cond.fieldLink RX6 174 "KeyDrift$Hall" "lengths" "[I" ∈ kT := mt_1 (List.mem_of_getElem? (i := 51) rfl) rfl
theorem lf_X2_110 : Cond.fieldLink RX2 110 "KeyDrift$Hall" "lengths" "[I" ∈ kT := mt_1 (List.mem_of_getElem? (i := 52) rfl) rfl
theorem lf_X3_15 : Cond.fieldLink RX3 15 "KeyDrift$Hall" "strings" "[I" ∈ kT := mt_1 (List.mem_of_getElem? (i := 53) rfl) rfl
theorem lf_X5_74 : Cond.fieldLink RX5 74 "KeyDrift$Hall" "strings" "[I" ∈ kT := mt_1 (List.mem_of_getElem? (i := 54) rfl) rfl
theorem lf_X3_18 : Cond.fieldLink RX3 18 "KeyDrift$Hall" "kinds" "[I" ∈ kT := mt_1 (List.mem_of_getElem? (i := 55) rfl) rfl
theorem lf_X2_46 : Cond.fieldLink RX2 46 "KeyDrift$Hall" "kinds" "[I" ∈ kT := mt_1 (List.mem_of_getElem? (i := 56) rfl) rfl
theorem lf_X5_91 : Cond.fieldLink RX5 91 "KeyDrift$Hall" "kinds" "[I" ∈ kT := mt_1 (List.mem_of_getElem? (i := 57) rfl) rfl
theorem lf_X6_266 : Cond.fieldLink RX6 266 "KeyDrift$Hall" "kinds" "[I" ∈ kT := mt_1 (List.mem_of_getElem? (i := 58) rfl) rfl
theorem lf_X3_21 : Cond.fieldLink RX3 21 "KeyDrift$Hall" "learnt" "[I" ∈ kT := mt_1 (List.mem_of_getElem? (i := 59) rfl) rfl
theorem lf_X0_32 : Cond.fieldLink RX0 32 "KeyDrift$Hall" "learnt" "[I" ∈ kT := mt_1 (List.mem_of_getElem? (i := 60) rfl) rfl
theorem lf_X5_98 : Cond.fieldLink RX5 98 "KeyDrift$Hall" "learnt" "[I" ∈ kT := mt_1 (List.mem_of_getElem? (i := 61) rfl) rfl
theorem lf_X6_168 : Cond.fieldLink RX6 168 "KeyDrift$Hall" "learnt" "[I" ∈ kT := mt_1 (List.mem_of_getElem? (i := 62) rfl) rfl
theorem lf_X2_103 : Cond.fieldLink RX2 103 "KeyDrift$Hall" "learnt" "[I" ∈ kT := mt_1 (List.mem_of_getElem? (i := 63) rfl) rfl
theorem lf_X3_24 : Cond.fieldLink RX3 24 "KeyDrift$Hall" "spans" "[I" ∈ kT := mt_1 (List.mem_of_getElem? (i := 64) rfl) rfl
theorem lf_X5_101 : Cond.fieldLink RX5 101 "KeyDrift$Hall" "spans" "[I" ∈ kT := mt_1 (List.mem_of_getElem? (i := 65) rfl) rfl
theorem lf_X6_181 : Cond.fieldLink RX6 181 "KeyDrift$Hall" "spans" "[I" ∈ kT := mt_1 (List.mem_of_getElem? (i := 66) rfl) rfl
theorem lf_X3_27 : Cond.fieldLink RX3 27 "KeyDrift$Hall" "keys" "I" ∈ kT := mt_1 (List.mem_of_getElem? (i := 67) rfl) rfl
theorem lf_X2_32 : Cond.fieldLink RX2 32 "KeyDrift$Hall" "keys" "I" ∈ kT := mt_1 (List.mem_of_getElem? (i := 68) rfl) rfl
theorem lf_X5_48 : Cond.fieldLink RX5 48 "KeyDrift$Hall" "keys" "I" ∈ kT := mt_1 (List.mem_of_getElem? (i := 69) rfl) rfl
theorem lf_X6_199 : Cond.fieldLink RX6 199 "KeyDrift$Hall" "keys" "I" ∈ kT := mt_1 (List.mem_of_getElem? (i := 70) rfl) rfl
theorem lf_X3_37 : Cond.fieldLink RX3 37 "KeyDrift$Hall" "drift" "I" ∈ kT := mt_1 (List.mem_of_getElem? (i := 71) rfl) rfl
theorem lf_X5_51 : Cond.fieldLink RX5 51 "KeyDrift$Hall" "drift" "I" ∈ kT := mt_1 (List.mem_of_getElem? (i := 72) rfl) rfl
theorem lf_X2_96 : Cond.fieldLink RX2 96 "KeyDrift$Hall" "drift" "I" ∈ kT := mt_1 (List.mem_of_getElem? (i := 73) rfl) rfl
theorem lf_X6_290 : Cond.fieldLink RX6 290 "KeyDrift$Hall" "drift" "I" ∈ kT := mt_1 (List.mem_of_getElem? (i := 74) rfl) rfl
theorem lf_X0_37 : Cond.fieldLink RX0 37 "KeyDrift$Hall" "shift" "I" ∈ kT := mt_1 (List.mem_of_getElem? (i := 75) rfl) rfl
theorem lf_X3_40 : Cond.fieldLink RX3 40 "KeyDrift$Hall" "shift" "I" ∈ kT := mt_1 (List.mem_of_getElem? (i := 76) rfl) rfl
theorem lf_X2_49 : Cond.fieldLink RX2 49 "KeyDrift$Hall" "shift" "I" ∈ kT := mt_1 (List.mem_of_getElem? (i := 77) rfl) rfl
theorem lf_X5_54 : Cond.fieldLink RX5 54 "KeyDrift$Hall" "shift" "I" ∈ kT := mt_1 (List.mem_of_getElem? (i := 78) rfl) rfl
theorem lf_X6_152 : Cond.fieldLink RX6 152 "KeyDrift$Hall" "shift" "I" ∈ kT := mt_1 (List.mem_of_getElem? (i := 79) rfl) rfl
theorem lf_X0_40 : Cond.fieldLink RX0 40 "KeyDrift$Hall" "night" "I" ∈ kT := mt_1 (List.mem_of_getElem? (i := 80) rfl) rfl
theorem lf_X3_43 : Cond.fieldLink RX3 43 "KeyDrift$Hall" "night" "I" ∈ kT := mt_1 (List.mem_of_getElem? (i := 81) rfl) rfl
theorem lf_X5_57 : Cond.fieldLink RX5 57 "KeyDrift$Hall" "night" "I" ∈ kT := mt_1 (List.mem_of_getElem? (i := 82) rfl) rfl
theorem lf_X6_149 : Cond.fieldLink RX6 149 "KeyDrift$Hall" "night" "I" ∈ kT := mt_1 (List.mem_of_getElem? (i := 83) rfl) rfl
theorem lf_X3_31 : Cond.fieldLink RX3 31 "KeyDrift$Hall" "pieces" "I" ∈ kT := mt_1 (List.mem_of_getElem? (i := 84) rfl) rfl
theorem lf_X5_60 : Cond.fieldLink RX5 60 "KeyDrift$Hall" "pieces" "I" ∈ kT := mt_1 (List.mem_of_getElem? (i := 85) rfl) rfl
theorem lf_X2_77 : Cond.fieldLink RX2 77 "KeyDrift$Hall" "pieces" "I" ∈ kT := mt_1 (List.mem_of_getElem? (i := 86) rfl) rfl
theorem lf_X6_293 : Cond.fieldLink RX6 293 "KeyDrift$Hall" "pieces" "I" ∈ kT := mt_1 (List.mem_of_getElem? (i := 87) rfl) rfl
theorem lf_X3_34 : Cond.fieldLink RX3 34 "KeyDrift$Hall" "pupils" "I" ∈ kT := mt_1 (List.mem_of_getElem? (i := 88) rfl) rfl
theorem lf_X2_43 : Cond.fieldLink RX2 43 "KeyDrift$Hall" "pupils" "I" ∈ kT := mt_1 (List.mem_of_getElem? (i := 89) rfl) rfl
theorem lf_X6_133 : Cond.fieldLink RX6 133 "KeyDrift$Hall" "pupils" "I" ∈ kT := mt_1 (List.mem_of_getElem? (i := 90) rfl) rfl
theorem lf_X5_84 : Cond.fieldLink RX5 84 "KeyDrift$Hall" "pupils" "I" ∈ kT := mt_1 (List.mem_of_getElem? (i := 91) rfl) rfl
theorem lc_X6_23 : Cond.classLink RX6 23 RX5 ∈ kT := mt_1 (List.mem_of_getElem? (i := 115) rfl) rfl
theorem wa_X5 : Cond.instantiable RX5 6 ∈ kT := mt_1 (List.mem_of_getElem? (i := 116) rfl) rfl
theorem lmn_X6_25 : Cond.methodLinkNest RX6 25 yX5_init "KeyDrift" ∈ lw_tbl := mu_1 (List.mem_of_getElem? (i := 117) rfl)
theorem wi_X5_init : Cond.instanceMethod yX5_init ∈ kT := mt_1 (List.mem_of_getElem? (i := 118) rfl) rfl
theorem wc_X5_init : Cond.code yX5_init cX5_init 1 none ∈ kT := mt_1 (List.mem_of_getElem? (i := 119) rfl) rfl
theorem lm_X5_3 : Cond.methodLink RX5 3 objectInit ∈ kT := mt_1 (List.mem_of_getElem? (i := 120) rfl) rfl
theorem lf_X5_11 : Cond.fieldLink RX5 11 "KeyDrift$Tape" "bytes" "[I" ∈ kT := mt_1 (List.mem_of_getElem? (i := 121) rfl) rfl
theorem lf_X5_19 : Cond.fieldLink RX5 19 "KeyDrift$Tape" "place" "I" ∈ kT := mt_1 (List.mem_of_getElem? (i := 122) rfl) rfl
theorem lf_X5_22 : Cond.fieldLink RX5 22 "KeyDrift$Tape" "foundFault" "I" ∈ kT := mt_1 (List.mem_of_getElem? (i := 123) rfl) rfl
theorem lf_X5_15 : Cond.fieldLink RX5 15 "KeyDrift$Tape" "size" "I" ∈ kT := mt_1 (List.mem_of_getElem? (i := 124) rfl) rfl
theorem lf_X6_296 : Cond.fieldLink RX6 296 "KeyDrift$Tape" "size" "I" ∈ kT := mt_1 (List.mem_of_getElem? (i := 125) rfl) rfl
theorem lf_X6_126 : Cond.fieldLink RX6 126 "KeyDrift$Tape" "foundAt" "I" ∈ kT := mt_1 (List.mem_of_getElem? (i := 126) rfl) rfl
theorem lf_X5_113 : Cond.fieldLink RX5 113 "KeyDrift$Tape" "foundAt" "I" ∈ kT := mt_1 (List.mem_of_getElem? (i := 127) rfl) rfl
theorem lf_X6_136 : Cond.fieldLink RX6 136 "KeyDrift$Tape" "latestFault" "I" ∈ kT := mt_1 (List.mem_of_getElem? (i := 128) rfl) rfl
theorem lf_X5_116 : Cond.fieldLink RX5 116 "KeyDrift$Tape" "latestFault" "I" ∈ kT := mt_1 (List.mem_of_getElem? (i := 129) rfl) rfl
theorem lc_X6_37 : Cond.classLink RX6 37 RX0 ∈ kT := mt_1 (List.mem_of_getElem? (i := 143) rfl) rfl
theorem wa_X0 : Cond.instantiable RX0 5 ∈ kT := mt_1 (List.mem_of_getElem? (i := 144) rfl) rfl
theorem lmn_X6_39 : Cond.methodLinkNest RX6 39 yX0_init "KeyDrift" ∈ lw_tbl := mu_1 (List.mem_of_getElem? (i := 145) rfl)
theorem wi_X0_init : Cond.instanceMethod yX0_init ∈ kT := mt_1 (List.mem_of_getElem? (i := 146) rfl) rfl
theorem wc_X0_init : Cond.code yX0_init cX0_init 1 none ∈ kT := mt_1 (List.mem_of_getElem? (i := 147) rfl) rfl
theorem lm_X0_1 : Cond.methodLink RX0 1 objectInit ∈ kT := mt_1 (List.mem_of_getElem? (i := 148) rfl) rfl
theorem lf_X0_9 : Cond.fieldLink RX0 9 "KeyDrift$Acts" "sorts" "[I" ∈ kT := mt_1 (List.mem_of_getElem? (i := 149) rfl) rfl
theorem lf_X0_13 : Cond.fieldLink RX0 13 "KeyDrift$Acts" "pupils" "[I" ∈ kT := mt_1 (List.mem_of_getElem? (i := 150) rfl) rfl
theorem lf_X0_16 : Cond.fieldLink RX0 16 "KeyDrift$Acts" "before" "[I" ∈ kT := mt_1 (List.mem_of_getElem? (i := 151) rfl) rfl
theorem lf_X0_23 : Cond.fieldLink RX0 23 "KeyDrift$Acts" "next" "I" ∈ kT := mt_1 (List.mem_of_getElem? (i := 152) rfl) rfl
theorem lf_X0_19 : Cond.fieldLink RX0 19 "KeyDrift$Acts" "kept" "I" ∈ kT := mt_1 (List.mem_of_getElem? (i := 153) rfl) rfl
theorem lf_X6_139 : Cond.fieldLink RX6 139 "KeyDrift$Acts" "kept" "I" ∈ kT := mt_1 (List.mem_of_getElem? (i := 154) rfl) rfl
theorem lc_X6_44 : Cond.classLink RX6 44 RX2 ∈ kT := mt_1 (List.mem_of_getElem? (i := 166) rfl) rfl
theorem wa_X2 : Cond.instantiable RX2 4 ∈ kT := mt_1 (List.mem_of_getElem? (i := 167) rfl) rfl
theorem lm_X6_46 : Cond.methodLink RX6 46 yX2_init ∈ kT := mt_1 (List.mem_of_getElem? (i := 168) rfl) rfl
theorem wi_X2_init : Cond.instanceMethod yX2_init ∈ kT := mt_1 (List.mem_of_getElem? (i := 169) rfl) rfl
theorem wc_X2_init : Cond.code yX2_init cX2_init 2 none ∈ kT := mt_1 (List.mem_of_getElem? (i := 170) rfl) rfl
theorem lm_X2_3 : Cond.methodLink RX2 3 objectInit ∈ kT := mt_1 (List.mem_of_getElem? (i := 171) rfl) rfl
theorem lf_X2_23 : Cond.fieldLink RX2 23 "KeyDrift$Foretold" "hall" "LKeyDrift$Hall;" ∈ kT := mt_1 (List.mem_of_getElem? (i := 172) rfl) rfl
theorem lf_X2_11 : Cond.fieldLink RX2 11 "KeyDrift$Foretold" "untaughtNights" "[I" ∈ kT := mt_1 (List.mem_of_getElem? (i := 173) rfl) rfl
theorem lf_X2_17 : Cond.fieldLink RX2 17 "KeyDrift$Foretold" "taughtNights" "[I" ∈ kT := mt_1 (List.mem_of_getElem? (i := 174) rfl) rfl
theorem lf_X2_20 : Cond.fieldLink RX2 20 "KeyDrift$Foretold" "pieceNights" "[I" ∈ kT := mt_1 (List.mem_of_getElem? (i := 175) rfl) rfl
theorem lc_X6_53 : Cond.classLink RX6 53 RX1 ∈ kT := mt_1 (List.mem_of_getElem? (i := 185) rfl) rfl
theorem wa_X1 : Cond.instantiable RX1 6 ∈ kT := mt_1 (List.mem_of_getElem? (i := 186) rfl) rfl
theorem lmn_X6_55 : Cond.methodLinkNest RX6 55 yX1_init "KeyDrift" ∈ lw_tbl := mu_1 (List.mem_of_getElem? (i := 187) rfl)
theorem wi_X1_init : Cond.instanceMethod yX1_init ∈ kT := mt_1 (List.mem_of_getElem? (i := 188) rfl) rfl
theorem wc_X1_init : Cond.code yX1_init cX1_init 1 none ∈ kT := mt_1 (List.mem_of_getElem? (i := 189) rfl) rfl
theorem lm_X1_3 : Cond.methodLink RX1 3 objectInit ∈ kT := mt_1 (List.mem_of_getElem? (i := 190) rfl) rfl
theorem lf_X1_11 : Cond.fieldLink RX1 11 "KeyDrift$Asked" "bodies" "[I" ∈ kT := mt_1 (List.mem_of_getElem? (i := 191) rfl) rfl
theorem lf_X6_284 : Cond.fieldLink RX6 284 "KeyDrift$Asked" "bodies" "[I" ∈ kT := mt_1 (List.mem_of_getElem? (i := 192) rfl) rfl
theorem lf_X1_31 : Cond.fieldLink RX1 31 "KeyDrift$Asked" "left" "I" ∈ kT := mt_1 (List.mem_of_getElem? (i := 193) rfl) rfl
theorem lf_X6_281 : Cond.fieldLink RX6 281 "KeyDrift$Asked" "left" "I" ∈ kT := mt_1 (List.mem_of_getElem? (i := 194) rfl) rfl
theorem lf_X1_18 : Cond.fieldLink RX1 18 "KeyDrift$Asked" "number" "I" ∈ kT := mt_1 (List.mem_of_getElem? (i := 195) rfl) rfl
theorem lf_X1_22 : Cond.fieldLink RX1 22 "KeyDrift$Asked" "sort" "I" ∈ kT := mt_1 (List.mem_of_getElem? (i := 196) rfl) rfl
theorem lf_X1_25 : Cond.fieldLink RX1 25 "KeyDrift$Asked" "learnt" "I" ∈ kT := mt_1 (List.mem_of_getElem? (i := 197) rfl) rfl
theorem lf_X1_28 : Cond.fieldLink RX1 28 "KeyDrift$Asked" "span" "I" ∈ kT := mt_1 (List.mem_of_getElem? (i := 198) rfl) rfl
theorem lf_X6_11 : Cond.fieldLink RX6 11 "KeyDrift" "rows" "[LKeyDrift$Row;" ∈ kT := mt_1 (List.mem_of_getElem? (i := 212) rfl) rfl
theorem lf_X6_26 : Cond.fieldLink RX6 26 "KeyDrift" "tape" "LKeyDrift$Tape;" ∈ kT := mt_1 (List.mem_of_getElem? (i := 213) rfl) rfl
theorem lf_X6_30 : Cond.fieldLink RX6 30 "KeyDrift" "now" "LKeyDrift$Hall;" ∈ kT := mt_1 (List.mem_of_getElem? (i := 214) rfl) rfl
theorem lf_X6_34 : Cond.fieldLink RX6 34 "KeyDrift" "spare" "LKeyDrift$Hall;" ∈ kT := mt_1 (List.mem_of_getElem? (i := 215) rfl) rfl
theorem lf_X6_18 : Cond.fieldLink RX6 18 "KeyDrift" "images" "[LKeyDrift$Hall;" ∈ kT := mt_1 (List.mem_of_getElem? (i := 216) rfl) rfl
theorem lf_X6_40 : Cond.fieldLink RX6 40 "KeyDrift" "acts" "LKeyDrift$Acts;" ∈ kT := mt_1 (List.mem_of_getElem? (i := 217) rfl) rfl
theorem lf_X6_49 : Cond.fieldLink RX6 49 "KeyDrift" "foretold" "LKeyDrift$Foretold;" ∈ kT := mt_1 (List.mem_of_getElem? (i := 218) rfl) rfl
theorem lf_X6_56 : Cond.fieldLink RX6 56 "KeyDrift" "asked" "LKeyDrift$Asked;" ∈ kT := mt_1 (List.mem_of_getElem? (i := 219) rfl) rfl
theorem lf_X6_299 : Cond.fieldLink RX6 299 "KeyDrift" "latestFinding" "I" ∈ kT := mt_1 (List.mem_of_getElem? (i := 220) rfl) rfl
theorem lm_L_13 : Cond.methodLink RL 13 yX6_row ∈ kT := mt_2 (List.mem_of_getElem? (i := 0) rfl) rfl
theorem wi_X6_row : Cond.instanceMethod yX6_row ∈ kT := mt_2 (List.mem_of_getElem? (i := 1) rfl) rfl
theorem ws_X6_row : Cond.selects RX6 yX6_row yX6_row ∈ kT := mt_2 (List.mem_of_getElem? (i := 2) rfl) rfl
theorem wc_X6_row : Cond.code yX6_row cX6_row 4 (some .int) ∈ kT := mt_2 (List.mem_of_getElem? (i := 3) rfl) rfl
theorem lm_X6_60 : Cond.methodLink RX6 60 yX6_isRow ∈ kT := mt_2 (List.mem_of_getElem? (i := 4) rfl) rfl
theorem wt_X6_isRow : Cond.static yX6_isRow ∈ kT := mt_2 (List.mem_of_getElem? (i := 5) rfl) rfl
theorem wc_X6_isRow : Cond.code yX6_isRow cX6_isRow 1 (some .boolean) ∈ kT := mt_2 (List.mem_of_getElem? (i := 6) rfl) rfl
theorem lm_X6_64 : Cond.methodLink RX6 64 yX4_isLane ∈ kT := mt_2 (List.mem_of_getElem? (i := 7) rfl) rfl
theorem wt_X4_isLane : Cond.static yX4_isLane ∈ kT := mt_2 (List.mem_of_getElem? (i := 8) rfl) rfl
theorem wc_X4_isLane : Cond.code yX4_isLane cX4_isLane 1 (some .boolean) ∈ kT := mt_2 (List.mem_of_getElem? (i := 9) rfl) rfl
theorem lk_X6_67 : Cond.constant RX6 67 (-1000001) ∈ kT := mt_2 (List.mem_of_getElem? (i := 10) rfl) rfl
theorem lm_X6_68 : Cond.methodLink RX6 68 yX6_found ∈ kT := mt_2 (List.mem_of_getElem? (i := 11) rfl) rfl
theorem wi_X6_found : Cond.instanceMethod yX6_found ∈ kT := mt_2 (List.mem_of_getElem? (i := 13) rfl) rfl
theorem wc_X6_found : Cond.code yX6_found cX6_found 2 (some .int) ∈ kT := mt_2 (List.mem_of_getElem? (i := 14) rfl) rfl
theorem lk_X6_302 : Cond.constant RX6 302 (-1000010) ∈ kT := mt_2 (List.mem_of_getElem? (i := 15) rfl) rfl
theorem lm_X6_72 : Cond.methodLink RX6 72 yX4_begin ∈ kT := mt_2 (List.mem_of_getElem? (i := 16) rfl) rfl
theorem wi_X4_begin : Cond.instanceMethod yX4_begin ∈ kT := mt_2 (List.mem_of_getElem? (i := 17) rfl) rfl
theorem ws_X4_begin : Cond.selects RX4 yX4_begin yX4_begin ∈ kT := mt_2 (List.mem_of_getElem? (i := 18) rfl) rfl
theorem wc_X4_begin : Cond.code yX4_begin cX4_begin 3 none ∈ kT := mt_2 (List.mem_of_getElem? (i := 19) rfl) rfl
theorem lm_X4_17 : Cond.methodLink RX4 17 yJ7_fill_53178 ∈ kT := mt_2 (List.mem_of_getElem? (i := 20) rfl) rfl
theorem wt_J7_fill_53178 : Cond.static yJ7_fill_53178 ∈ kT := mt_2 (List.mem_of_getElem? (i := 21) rfl) rfl
theorem wc_J7_fill_53178 : Cond.code yJ7_fill_53178 cJ7_fill_53178 4 none ∈ kT := mt_2 (List.mem_of_getElem? (i := 22) rfl) rfl
theorem lm_X6_76 : Cond.methodLink RX6 76 yX6_fine ∈ kT := mt_2 (List.mem_of_getElem? (i := 23) rfl) rfl
theorem wi_X6_fine : Cond.instanceMethod yX6_fine ∈ kT := mt_2 (List.mem_of_getElem? (i := 25) rfl) rfl
theorem wc_X6_fine : Cond.code yX6_fine cX6_fine 2 (some .int) ∈ kT := mt_2 (List.mem_of_getElem? (i := 26) rfl) rfl
theorem lm_L_18 : Cond.methodLink RL 18 yX6_set ∈ kT := mt_2 (List.mem_of_getElem? (i := 27) rfl) rfl
theorem wi_X6_set : Cond.instanceMethod yX6_set ∈ kT := mt_2 (List.mem_of_getElem? (i := 28) rfl) rfl
theorem ws_X6_set : Cond.selects RX6 yX6_set yX6_set ∈ kT := mt_2 (List.mem_of_getElem? (i := 29) rfl) rfl
theorem wc_X6_set : Cond.code yX6_set cX6_set 4 (some .int) ∈ kT := mt_2 (List.mem_of_getElem? (i := 30) rfl) rfl
theorem lm_X6_79 : Cond.methodLink RX6 79 yX4_isMissing ∈ kT := mt_2 (List.mem_of_getElem? (i := 31) rfl) rfl
theorem wi_X4_isMissing : Cond.instanceMethod yX4_isMissing ∈ kT := mt_2 (List.mem_of_getElem? (i := 32) rfl) rfl
theorem ws_X4_isMissing : Cond.selects RX4 yX4_isMissing yX4_isMissing ∈ kT := mt_2 (List.mem_of_getElem? (i := 33) rfl) rfl
theorem wc_X4_isMissing : Cond.code yX4_isMissing cX4_isMissing 1 (some .boolean) ∈ kT := mt_2 (List.mem_of_getElem? (i := 34) rfl) rfl
theorem lm_X6_83 : Cond.methodLink RX6 83 yX4_hasPlaces ∈ kT := mt_2 (List.mem_of_getElem? (i := 35) rfl) rfl
theorem wi_X4_hasPlaces : Cond.instanceMethod yX4_hasPlaces ∈ kT := mt_2 (List.mem_of_getElem? (i := 36) rfl) rfl
theorem ws_X4_hasPlaces : Cond.selects RX4 yX4_hasPlaces yX4_hasPlaces ∈ kT := mt_2 (List.mem_of_getElem? (i := 37) rfl) rfl
theorem wc_X4_hasPlaces : Cond.code yX4_hasPlaces cX4_hasPlaces 3 (some .boolean) ∈ kT := mt_2 (List.mem_of_getElem? (i := 38) rfl) rfl
theorem lm_X6_87 : Cond.methodLink RX6 87 yX4_put ∈ kT := mt_2 (List.mem_of_getElem? (i := 39) rfl) rfl
theorem wi_X4_put : Cond.instanceMethod yX4_put ∈ kT := mt_2 (List.mem_of_getElem? (i := 40) rfl) rfl
theorem ws_X4_put : Cond.selects RX4 yX4_put yX4_put ∈ kT := mt_2 (List.mem_of_getElem? (i := 41) rfl) rfl
theorem wc_X4_put : Cond.code yX4_put cX4_put 3 (some .int) ∈ kT := mt_2 (List.mem_of_getElem? (i := 42) rfl) rfl
theorem lm_X4_26 : Cond.methodLink RX4 26 yX4_lowestBits ∈ kT := mt_2 (List.mem_of_getElem? (i := 43) rfl) rfl
theorem wi_X4_lowestBits : Cond.instanceMethod yX4_lowestBits ∈ kT := mt_2 (List.mem_of_getElem? (i := 45) rfl) rfl
theorem wc_X4_lowestBits : Cond.code yX4_lowestBits cX4_lowestBits 2 (some .int) ∈ kT := mt_2 (List.mem_of_getElem? (i := 46) rfl) rfl
theorem lm_L_22 : Cond.methodLink RL 22 yX6_copy ∈ kT := mt_2 (List.mem_of_getElem? (i := 47) rfl) rfl
theorem wi_X6_copy : Cond.instanceMethod yX6_copy ∈ kT := mt_2 (List.mem_of_getElem? (i := 48) rfl) rfl
theorem ws_X6_copy : Cond.selects RX6 yX6_copy yX6_copy ∈ kT := mt_2 (List.mem_of_getElem? (i := 49) rfl) rfl
theorem wc_X6_copy : Cond.code yX6_copy cX6_copy 6 (some .int) ∈ kT := mt_2 (List.mem_of_getElem? (i := 50) rfl) rfl
theorem lm_X6_99 : Cond.methodLink RX6 99 ⟨"java/lang/System", "arraycopy", "(Ljava/lang/Object;ILjava/lang/Object;II)V"⟩ ∈ kT := mt_2 (List.mem_of_getElem? (i := 51) rfl) rfl
theorem wt_O_arraycopy : Cond.static ⟨"java/lang/System", "arraycopy", "(Ljava/lang/Object;ILjava/lang/Object;II)V"⟩ ∈ kT := mt_2 (List.mem_of_getElem? (i := 52) rfl) rfl
theorem wv_O_arraycopy : Cond.native ⟨"java/lang/System", "arraycopy", "(Ljava/lang/Object;ILjava/lang/Object;II)V"⟩ ∈ kT := mt_2 (List.mem_of_getElem? (i := 53) rfl) rfl
theorem lm_L_27 : Cond.methodLink RL 27 yX6_drop ∈ kT := mt_2 (List.mem_of_getElem? (i := 54) rfl) rfl
theorem wi_X6_drop : Cond.instanceMethod yX6_drop ∈ kT := mt_2 (List.mem_of_getElem? (i := 55) rfl) rfl
theorem ws_X6_drop : Cond.selects RX6 yX6_drop yX6_drop ∈ kT := mt_2 (List.mem_of_getElem? (i := 56) rfl) rfl
theorem wc_X6_drop : Cond.code yX6_drop cX6_drop 3 (some .int) ∈ kT := mt_2 (List.mem_of_getElem? (i := 57) rfl) rfl
theorem lm_X6_108 : Cond.methodLink RX6 108 yX4_lose ∈ kT := mt_2 (List.mem_of_getElem? (i := 58) rfl) rfl
theorem wi_X4_lose : Cond.instanceMethod yX4_lose ∈ kT := mt_2 (List.mem_of_getElem? (i := 59) rfl) rfl
theorem ws_X4_lose : Cond.selects RX4 yX4_lose yX4_lose ∈ kT := mt_2 (List.mem_of_getElem? (i := 60) rfl) rfl
theorem wc_X4_lose : Cond.code yX4_lose cX4_lose 1 none ∈ kT := mt_2 (List.mem_of_getElem? (i := 61) rfl) rfl
theorem lm_L_32 : Cond.methodLink RL 32 yX6_feed ∈ kT := mt_2 (List.mem_of_getElem? (i := 62) rfl) rfl
theorem wi_X6_feed : Cond.instanceMethod yX6_feed ∈ kT := mt_2 (List.mem_of_getElem? (i := 63) rfl) rfl
theorem ws_X6_feed : Cond.selects RX6 yX6_feed yX6_feed ∈ kT := mt_2 (List.mem_of_getElem? (i := 64) rfl) rfl
theorem wc_X6_feed : Cond.code yX6_feed cX6_feed 2 (some .int) ∈ kT := mt_2 (List.mem_of_getElem? (i := 65) rfl) rfl
theorem lm_X6_111 : Cond.methodLink RX6 111 yX5_isFull ∈ kT := mt_2 (List.mem_of_getElem? (i := 66) rfl) rfl
theorem wi_X5_isFull : Cond.instanceMethod yX5_isFull ∈ kT := mt_2 (List.mem_of_getElem? (i := 67) rfl) rfl
theorem ws_X5_isFull : Cond.selects RX5 yX5_isFull yX5_isFull ∈ kT := mt_2 (List.mem_of_getElem? (i := 68) rfl) rfl
theorem wc_X5_isFull : Cond.code yX5_isFull cX5_isFull 1 (some .boolean) ∈ kT := mt_2 (List.mem_of_getElem? (i := 69) rfl) rfl
theorem lk_X6_114 : Cond.constant RX6 114 (-1000003) ∈ kT := mt_2 (List.mem_of_getElem? (i := 70) rfl) rfl
theorem lm_X6_115 : Cond.methodLink RX6 115 yX5_append ∈ kT := mt_2 (List.mem_of_getElem? (i := 71) rfl) rfl
theorem wi_X5_append : Cond.instanceMethod yX5_append ∈ kT := mt_2 (List.mem_of_getElem? (i := 72) rfl) rfl
theorem ws_X5_append : Cond.selects RX5 yX5_append yX5_append ∈ kT := mt_2 (List.mem_of_getElem? (i := 73) rfl) rfl
theorem wc_X5_append : Cond.code yX5_append cX5_append 2 (some .int) ∈ kT := mt_2 (List.mem_of_getElem? (i := 74) rfl) rfl
theorem lm_L_36 : Cond.methodLink RL 36 yX6_hall ∈ kT := mt_2 (List.mem_of_getElem? (i := 75) rfl) rfl
theorem wi_X6_hall : Cond.instanceMethod yX6_hall ∈ kT := mt_2 (List.mem_of_getElem? (i := 76) rfl) rfl
theorem ws_X6_hall : Cond.selects RX6 yX6_hall yX6_hall ∈ kT := mt_2 (List.mem_of_getElem? (i := 77) rfl) rfl
theorem wc_X6_hall : Cond.code yX6_hall cX6_hall 2 (some .int) ∈ kT := mt_2 (List.mem_of_getElem? (i := 78) rfl) rfl
theorem lm_X6_118 : Cond.methodLink RX6 118 yX5_readInto ∈ kT := mt_2 (List.mem_of_getElem? (i := 79) rfl) rfl
theorem wi_X5_readInto : Cond.instanceMethod yX5_readInto ∈ kT := mt_2 (List.mem_of_getElem? (i := 80) rfl) rfl
theorem ws_X5_readInto : Cond.selects RX5 yX5_readInto yX5_readInto ∈ kT := mt_2 (List.mem_of_getElem? (i := 81) rfl) rfl
theorem wc_X5_readInto : Cond.code yX5_readInto cX5_readInto 2 (some .boolean) ∈ kT := mt_2 (List.mem_of_getElem? (i := 82) rfl) rfl
theorem lm_X5_25 : Cond.methodLink RX5 25 yX5_readLaw ∈ kT := mt_2 (List.mem_of_getElem? (i := 83) rfl) rfl
theorem wi_X5_readLaw : Cond.instanceMethod yX5_readLaw ∈ kT := mt_2 (List.mem_of_getElem? (i := 85) rfl) rfl
theorem wc_X5_readLaw : Cond.code yX5_readLaw cX5_readLaw 2 none ∈ kT := mt_2 (List.mem_of_getElem? (i := 86) rfl) rfl
theorem lm_X5_39 : Cond.methodLink RX5 39 yX5_takeByte ∈ kT := mt_2 (List.mem_of_getElem? (i := 87) rfl) rfl
theorem wi_X5_takeByte : Cond.instanceMethod yX5_takeByte ∈ kT := mt_2 (List.mem_of_getElem? (i := 89) rfl) rfl
theorem wc_X5_takeByte : Cond.code yX5_takeByte cX5_takeByte 2 none ∈ kT := mt_2 (List.mem_of_getElem? (i := 90) rfl) rfl
theorem lm_X5_63 : Cond.methodLink RX5 63 yX5_sees ∈ kT := mt_2 (List.mem_of_getElem? (i := 91) rfl) rfl
theorem wi_X5_sees : Cond.instanceMethod yX5_sees ∈ kT := mt_2 (List.mem_of_getElem? (i := 93) rfl) rfl
theorem wc_X5_sees : Cond.code yX5_sees cX5_sees 2 (some .boolean) ∈ kT := mt_2 (List.mem_of_getElem? (i := 94) rfl) rfl
theorem lm_X5_77 : Cond.methodLink RX5 77 yX5_byteHere ∈ kT := mt_2 (List.mem_of_getElem? (i := 95) rfl) rfl
theorem wi_X5_byteHere : Cond.instanceMethod yX5_byteHere ∈ kT := mt_2 (List.mem_of_getElem? (i := 97) rfl) rfl
theorem wc_X5_byteHere : Cond.code yX5_byteHere cX5_byteHere 1 (some .int) ∈ kT := mt_2 (List.mem_of_getElem? (i := 98) rfl) rfl
theorem lm_X5_107 : Cond.methodLink RX5 107 yX5_byteAt ∈ kT := mt_2 (List.mem_of_getElem? (i := 99) rfl) rfl
theorem wi_X5_byteAt : Cond.instanceMethod yX5_byteAt ∈ kT := mt_2 (List.mem_of_getElem? (i := 101) rfl) rfl
theorem wc_X5_byteAt : Cond.code yX5_byteAt cX5_byteAt 2 (some .int) ∈ kT := mt_2 (List.mem_of_getElem? (i := 102) rfl) rfl
theorem lm_X5_35 : Cond.methodLink RX5 35 yX5_refuse ∈ kT := mt_2 (List.mem_of_getElem? (i := 103) rfl) rfl
theorem wi_X5_refuse : Cond.instanceMethod yX5_refuse ∈ kT := mt_2 (List.mem_of_getElem? (i := 105) rfl) rfl
theorem wc_X5_refuse : Cond.code yX5_refuse cX5_refuse 2 none ∈ kT := mt_2 (List.mem_of_getElem? (i := 106) rfl) rfl
theorem lm_X5_44 : Cond.methodLink RX5 44 yX5_takeNumber ∈ kT := mt_2 (List.mem_of_getElem? (i := 107) rfl) rfl
theorem wi_X5_takeNumber : Cond.instanceMethod yX5_takeNumber ∈ kT := mt_2 (List.mem_of_getElem? (i := 109) rfl) rfl
theorem wc_X5_takeNumber : Cond.code yX5_takeNumber cX5_takeNumber 6 (some .int) ∈ kT := mt_2 (List.mem_of_getElem? (i := 110) rfl) rfl
theorem lm_X5_104 : Cond.methodLink RX5 104 yX5_figuresHere ∈ kT := mt_2 (List.mem_of_getElem? (i := 111) rfl) rfl
theorem wi_X5_figuresHere : Cond.instanceMethod yX5_figuresHere ∈ kT := mt_2 (List.mem_of_getElem? (i := 113) rfl) rfl
theorem wc_X5_figuresHere : Cond.code yX5_figuresHere cX5_figuresHere 2 (some .int) ∈ kT := mt_2 (List.mem_of_getElem? (i := 114) rfl) rfl
theorem lm_X5_110 : Cond.methodLink RX5 110 yX5_isFigure ∈ kT := mt_2 (List.mem_of_getElem? (i := 115) rfl) rfl
theorem wt_X5_isFigure : Cond.static yX5_isFigure ∈ kT := mt_2 (List.mem_of_getElem? (i := 116) rfl) rfl
theorem wc_X5_isFigure : Cond.code yX5_isFigure cX5_isFigure 1 (some .boolean) ∈ kT := mt_2 (List.mem_of_getElem? (i := 117) rfl) rfl
theorem lm_X5_29 : Cond.methodLink RX5 29 yX5_readPieces ∈ kT := mt_2 (List.mem_of_getElem? (i := 118) rfl) rfl
theorem wi_X5_readPieces : Cond.instanceMethod yX5_readPieces ∈ kT := mt_2 (List.mem_of_getElem? (i := 120) rfl) rfl
theorem wc_X5_readPieces : Cond.code yX5_readPieces cX5_readPieces 3 none ∈ kT := mt_2 (List.mem_of_getElem? (i := 121) rfl) rfl
theorem lm_X5_67 : Cond.methodLink RX5 67 yX5_readStrings ∈ kT := mt_2 (List.mem_of_getElem? (i := 122) rfl) rfl
theorem wi_X5_readStrings : Cond.instanceMethod yX5_readStrings ∈ kT := mt_2 (List.mem_of_getElem? (i := 124) rfl) rfl
theorem wc_X5_readStrings : Cond.code yX5_readStrings cX5_readStrings 4 none ∈ kT := mt_2 (List.mem_of_getElem? (i := 125) rfl) rfl
theorem lm_X5_71 : Cond.methodLink RX5 71 yX5_seesString ∈ kT := mt_2 (List.mem_of_getElem? (i := 126) rfl) rfl
theorem wi_X5_seesString : Cond.instanceMethod yX5_seesString ∈ kT := mt_2 (List.mem_of_getElem? (i := 128) rfl) rfl
theorem wc_X5_seesString : Cond.code yX5_seesString cX5_seesString 3 (some .boolean) ∈ kT := mt_2 (List.mem_of_getElem? (i := 129) rfl) rfl
theorem lm_X5_32 : Cond.methodLink RX5 32 yX5_readPupils ∈ kT := mt_2 (List.mem_of_getElem? (i := 130) rfl) rfl
theorem wi_X5_readPupils : Cond.instanceMethod yX5_readPupils ∈ kT := mt_2 (List.mem_of_getElem? (i := 132) rfl) rfl
theorem wc_X5_readPupils : Cond.code yX5_readPupils cX5_readPupils 3 none ∈ kT := mt_2 (List.mem_of_getElem? (i := 133) rfl) rfl
theorem lm_X5_87 : Cond.methodLink RX5 87 yX5_seesSort ∈ kT := mt_2 (List.mem_of_getElem? (i := 134) rfl) rfl
theorem wi_X5_seesSort : Cond.instanceMethod yX5_seesSort ∈ kT := mt_2 (List.mem_of_getElem? (i := 136) rfl) rfl
theorem wc_X5_seesSort : Cond.code yX5_seesSort cX5_seesSort 1 (some .boolean) ∈ kT := mt_2 (List.mem_of_getElem? (i := 137) rfl) rfl
theorem lm_X5_94 : Cond.methodLink RX5 94 yX5_kindOfSort ∈ kT := mt_2 (List.mem_of_getElem? (i := 138) rfl) rfl
theorem wt_X5_kindOfSort : Cond.static yX5_kindOfSort ∈ kT := mt_2 (List.mem_of_getElem? (i := 139) rfl) rfl
theorem wc_X5_kindOfSort : Cond.code yX5_kindOfSort cX5_kindOfSort 1 (some .int) ∈ kT := mt_2 (List.mem_of_getElem? (i := 140) rfl) rfl
theorem lm_X6_122 : Cond.methodLink RX6 122 yX5_clear ∈ kT := mt_2 (List.mem_of_getElem? (i := 141) rfl) rfl
theorem wi_X5_clear : Cond.instanceMethod yX5_clear ∈ kT := mt_2 (List.mem_of_getElem? (i := 142) rfl) rfl
theorem ws_X5_clear : Cond.selects RX5 yX5_clear yX5_clear ∈ kT := mt_2 (List.mem_of_getElem? (i := 143) rfl) rfl
theorem wc_X5_clear : Cond.code yX5_clear cX5_clear 1 none ∈ kT := mt_2 (List.mem_of_getElem? (i := 144) rfl) rfl
theorem lk_X6_125 : Cond.constant RX6 125 (-1000100) ∈ kT := mt_2 (List.mem_of_getElem? (i := 145) rfl) rfl
theorem lm_X6_129 : Cond.methodLink RX6 129 yX3_become ∈ kT := mt_2 (List.mem_of_getElem? (i := 146) rfl) rfl
theorem wi_X3_become : Cond.instanceMethod yX3_become ∈ kT := mt_2 (List.mem_of_getElem? (i := 147) rfl) rfl
theorem ws_X3_become : Cond.selects RX3 yX3_become yX3_become ∈ kT := mt_2 (List.mem_of_getElem? (i := 148) rfl) rfl
theorem wc_X3_become : Cond.code yX3_become cX3_become 2 none ∈ kT := mt_2 (List.mem_of_getElem? (i := 149) rfl) rfl
theorem lm_X3_46 : Cond.methodLink RX3 46 ⟨"java/lang/System", "arraycopy", "(Ljava/lang/Object;ILjava/lang/Object;II)V"⟩ ∈ kT := mt_2 (List.mem_of_getElem? (i := 150) rfl) rfl
theorem lm_X6_132 : Cond.methodLink RX6 132 yX0_clear ∈ kT := mt_2 (List.mem_of_getElem? (i := 151) rfl) rfl
theorem wi_X0_clear : Cond.instanceMethod yX0_clear ∈ kT := mt_2 (List.mem_of_getElem? (i := 152) rfl) rfl
theorem ws_X0_clear : Cond.selects RX0 yX0_clear yX0_clear ∈ kT := mt_2 (List.mem_of_getElem? (i := 153) rfl) rfl
theorem wc_X0_clear : Cond.code yX0_clear cX0_clear 1 none ∈ kT := mt_2 (List.mem_of_getElem? (i := 154) rfl) rfl
theorem lm_L_41 : Cond.methodLink RL 41 yX6_fault ∈ kT := mt_2 (List.mem_of_getElem? (i := 155) rfl) rfl
theorem wi_X6_fault : Cond.instanceMethod yX6_fault ∈ kT := mt_2 (List.mem_of_getElem? (i := 156) rfl) rfl
theorem ws_X6_fault : Cond.selects RX6 yX6_fault yX6_fault ∈ kT := mt_2 (List.mem_of_getElem? (i := 157) rfl) rfl
theorem wc_X6_fault : Cond.code yX6_fault cX6_fault 1 (some .int) ∈ kT := mt_2 (List.mem_of_getElem? (i := 158) rfl) rfl
theorem lm_L_45 : Cond.methodLink RL 45 yX6_undo ∈ kT := mt_2 (List.mem_of_getElem? (i := 159) rfl) rfl
theorem wi_X6_undo : Cond.instanceMethod yX6_undo ∈ kT := mt_2 (List.mem_of_getElem? (i := 160) rfl) rfl
theorem ws_X6_undo : Cond.selects RX6 yX6_undo yX6_undo ∈ kT := mt_2 (List.mem_of_getElem? (i := 161) rfl) rfl
theorem wc_X6_undo : Cond.code yX6_undo cX6_undo 1 (some .int) ∈ kT := mt_2 (List.mem_of_getElem? (i := 162) rfl) rfl
theorem lk_X6_142 : Cond.constant RX6 142 (-1000002) ∈ kT := mt_2 (List.mem_of_getElem? (i := 163) rfl) rfl
theorem lm_X6_143 : Cond.methodLink RX6 143 yX0_takeBack ∈ kT := mt_2 (List.mem_of_getElem? (i := 164) rfl) rfl
theorem wi_X0_takeBack : Cond.instanceMethod yX0_takeBack ∈ kT := mt_2 (List.mem_of_getElem? (i := 165) rfl) rfl
theorem ws_X0_takeBack : Cond.selects RX0 yX0_takeBack yX0_takeBack ∈ kT := mt_2 (List.mem_of_getElem? (i := 166) rfl) rfl
theorem wc_X0_takeBack : Cond.code yX0_takeBack cX0_takeBack 2 none ∈ kT := mt_2 (List.mem_of_getElem? (i := 167) rfl) rfl
theorem lm_L_49 : Cond.methodLink RL 49 yX6_nights ∈ kT := mt_2 (List.mem_of_getElem? (i := 168) rfl) rfl
theorem wi_X6_nights : Cond.instanceMethod yX6_nights ∈ kT := mt_2 (List.mem_of_getElem? (i := 169) rfl) rfl
theorem ws_X6_nights : Cond.selects RX6 yX6_nights yX6_nights ∈ kT := mt_2 (List.mem_of_getElem? (i := 170) rfl) rfl
theorem wc_X6_nights : Cond.code yX6_nights cX6_nights 3 (some .int) ∈ kT := mt_2 (List.mem_of_getElem? (i := 171) rfl) rfl
theorem lm_X6_146 : Cond.methodLink RX6 146 yX3_isTold ∈ kT := mt_2 (List.mem_of_getElem? (i := 172) rfl) rfl
theorem wi_X3_isTold : Cond.instanceMethod yX3_isTold ∈ kT := mt_2 (List.mem_of_getElem? (i := 173) rfl) rfl
theorem ws_X3_isTold : Cond.selects RX3 yX3_isTold yX3_isTold ∈ kT := mt_2 (List.mem_of_getElem? (i := 174) rfl) rfl
theorem wc_X3_isTold : Cond.code yX3_isTold cX3_isTold 1 (some .boolean) ∈ kT := mt_2 (List.mem_of_getElem? (i := 175) rfl) rfl
theorem lm_X6_155 : Cond.methodLink RX6 155 yX0_keep ∈ kT := mt_2 (List.mem_of_getElem? (i := 176) rfl) rfl
theorem wi_X0_keep : Cond.instanceMethod yX0_keep ∈ kT := mt_2 (List.mem_of_getElem? (i := 177) rfl) rfl
theorem ws_X0_keep : Cond.selects RX0 yX0_keep yX0_keep ∈ kT := mt_2 (List.mem_of_getElem? (i := 178) rfl) rfl
theorem wc_X0_keep : Cond.code yX0_keep cX0_keep 4 none ∈ kT := mt_2 (List.mem_of_getElem? (i := 179) rfl) rfl
theorem lm_X0_26 : Cond.methodLink RX0 26 yJ9_min_7cf53 ∈ kT := mt_2 (List.mem_of_getElem? (i := 180) rfl) rfl
theorem wt_J9_min_7cf53 : Cond.static yJ9_min_7cf53 ∈ kT := mt_2 (List.mem_of_getElem? (i := 181) rfl) rfl
theorem wc_J9_min_7cf53 : Cond.code yJ9_min_7cf53 cJ9_min_7cf53 2 (some .int) ∈ kT := mt_2 (List.mem_of_getElem? (i := 182) rfl) rfl
theorem lm_X6_159 : Cond.methodLink RX6 159 yX3_shiftBehind ∈ kT := mt_2 (List.mem_of_getElem? (i := 183) rfl) rfl
theorem wi_X3_shiftBehind : Cond.instanceMethod yX3_shiftBehind ∈ kT := mt_2 (List.mem_of_getElem? (i := 184) rfl) rfl
theorem ws_X3_shiftBehind : Cond.selects RX3 yX3_shiftBehind yX3_shiftBehind ∈ kT := mt_2 (List.mem_of_getElem? (i := 185) rfl) rfl
theorem wc_X3_shiftBehind : Cond.code yX3_shiftBehind cX3_shiftBehind 2 (some .int) ∈ kT := mt_2 (List.mem_of_getElem? (i := 186) rfl) rfl
theorem lm_X3_52 : Cond.methodLink RX3 52 yX3_around ∈ kT := mt_2 (List.mem_of_getElem? (i := 187) rfl) rfl
theorem wi_X3_around : Cond.instanceMethod yX3_around ∈ kT := mt_2 (List.mem_of_getElem? (i := 188) rfl) rfl
theorem ws_X3_around : Cond.selects RX3 yX3_around yX3_around ∈ kT := mt_2 (List.mem_of_getElem? (i := 189) rfl) rfl
theorem wc_X3_around : Cond.code yX3_around cX3_around 3 (some .int) ∈ kT := mt_2 (List.mem_of_getElem? (i := 190) rfl) rfl
theorem lm_L_53 : Cond.methodLink RL 53 yX6_thunder ∈ kT := mt_2 (List.mem_of_getElem? (i := 191) rfl) rfl
theorem wi_X6_thunder : Cond.instanceMethod yX6_thunder ∈ kT := mt_2 (List.mem_of_getElem? (i := 192) rfl) rfl
theorem ws_X6_thunder : Cond.selects RX6 yX6_thunder yX6_thunder ∈ kT := mt_2 (List.mem_of_getElem? (i := 193) rfl) rfl
theorem wc_X6_thunder : Cond.code yX6_thunder cX6_thunder 2 (some .int) ∈ kT := mt_2 (List.mem_of_getElem? (i := 194) rfl) rfl
theorem lm_X6_162 : Cond.methodLink RX6 162 yX3_around ∈ kT := mt_2 (List.mem_of_getElem? (i := 195) rfl) rfl
theorem lm_L_57 : Cond.methodLink RL 57 yX6_tune ∈ kT := mt_2 (List.mem_of_getElem? (i := 196) rfl) rfl
theorem wi_X6_tune : Cond.instanceMethod yX6_tune ∈ kT := mt_2 (List.mem_of_getElem? (i := 197) rfl) rfl
theorem ws_X6_tune : Cond.selects RX6 yX6_tune yX6_tune ∈ kT := mt_2 (List.mem_of_getElem? (i := 198) rfl) rfl
theorem wc_X6_tune : Cond.code yX6_tune cX6_tune 2 (some .int) ∈ kT := mt_2 (List.mem_of_getElem? (i := 199) rfl) rfl
theorem lm_L_61 : Cond.methodLink RL 61 yX6_learn ∈ kT := mt_2 (List.mem_of_getElem? (i := 200) rfl) rfl
theorem wi_X6_learn : Cond.instanceMethod yX6_learn ∈ kT := mt_2 (List.mem_of_getElem? (i := 201) rfl) rfl
theorem ws_X6_learn : Cond.selects RX6 yX6_learn yX6_learn ∈ kT := mt_2 (List.mem_of_getElem? (i := 202) rfl) rfl
theorem wc_X6_learn : Cond.code yX6_learn cX6_learn 3 (some .int) ∈ kT := mt_2 (List.mem_of_getElem? (i := 203) rfl) rfl
theorem lm_X6_165 : Cond.methodLink RX6 165 yX3_hasPupil ∈ kT := mt_2 (List.mem_of_getElem? (i := 204) rfl) rfl
theorem wi_X3_hasPupil : Cond.instanceMethod yX3_hasPupil ∈ kT := mt_2 (List.mem_of_getElem? (i := 205) rfl) rfl
theorem ws_X3_hasPupil : Cond.selects RX3 yX3_hasPupil yX3_hasPupil ∈ kT := mt_2 (List.mem_of_getElem? (i := 206) rfl) rfl
theorem wc_X3_hasPupil : Cond.code yX3_hasPupil cX3_hasPupil 2 (some .boolean) ∈ kT := mt_2 (List.mem_of_getElem? (i := 207) rfl) rfl
theorem lm_L_65 : Cond.methodLink RL 65 yX6_piece ∈ kT := mt_2 (List.mem_of_getElem? (i := 208) rfl) rfl
theorem wi_X6_piece : Cond.instanceMethod yX6_piece ∈ kT := mt_2 (List.mem_of_getElem? (i := 209) rfl) rfl
theorem ws_X6_piece : Cond.selects RX6 yX6_piece yX6_piece ∈ kT := mt_2 (List.mem_of_getElem? (i := 210) rfl) rfl
theorem wc_X6_piece : Cond.code yX6_piece cX6_piece 3 (some .int) ∈ kT := mt_2 (List.mem_of_getElem? (i := 211) rfl) rfl
theorem lm_X6_171 : Cond.methodLink RX6 171 yX3_hasPiece ∈ kT := mt_2 (List.mem_of_getElem? (i := 212) rfl) rfl
theorem wi_X3_hasPiece : Cond.instanceMethod yX3_hasPiece ∈ kT := mt_2 (List.mem_of_getElem? (i := 213) rfl) rfl
theorem ws_X3_hasPiece : Cond.selects RX3 yX3_hasPiece yX3_hasPiece ∈ kT := mt_2 (List.mem_of_getElem? (i := 214) rfl) rfl
theorem wc_X3_hasPiece : Cond.code yX3_hasPiece cX3_hasPiece 2 (some .boolean) ∈ kT := mt_2 (List.mem_of_getElem? (i := 215) rfl) rfl
theorem lm_X6_177 : Cond.methodLink RX6 177 yX3_stringOf ∈ kT := mt_2 (List.mem_of_getElem? (i := 216) rfl) rfl
theorem wi_X3_stringOf : Cond.instanceMethod yX3_stringOf ∈ kT := mt_2 (List.mem_of_getElem? (i := 217) rfl) rfl
theorem ws_X3_stringOf : Cond.selects RX3 yX3_stringOf yX3_stringOf ∈ kT := mt_2 (List.mem_of_getElem? (i := 218) rfl) rfl
theorem wc_X3_stringOf : Cond.code yX3_stringOf cX3_stringOf 3 (some .int) ∈ kT := mt_2 (List.mem_of_getElem? (i := 219) rfl) rfl
theorem lk_X6_180 : Cond.constant RX6 180 (-1000000) ∈ kT := mt_2 (List.mem_of_getElem? (i := 220) rfl) rfl
theorem lm_L_70 : Cond.methodLink RL 70 yX6_pupil ∈ kT := mt_2 (List.mem_of_getElem? (i := 221) rfl) rfl
theorem wi_X6_pupil : Cond.instanceMethod yX6_pupil ∈ kT := mt_2 (List.mem_of_getElem? (i := 222) rfl) rfl
theorem ws_X6_pupil : Cond.selects RX6 yX6_pupil yX6_pupil ∈ kT := mt_2 (List.mem_of_getElem? (i := 223) rfl) rfl
theorem wc_X6_pupil : Cond.code yX6_pupil cX6_pupil 3 (some .int) ∈ kT := mt_2 (List.mem_of_getElem? (i := 224) rfl) rfl
theorem lm_X6_184 : Cond.methodLink RX6 184 yX3_biasOf ∈ kT := mt_2 (List.mem_of_getElem? (i := 225) rfl) rfl
theorem wi_X3_biasOf : Cond.instanceMethod yX3_biasOf ∈ kT := mt_2 (List.mem_of_getElem? (i := 226) rfl) rfl
theorem ws_X3_biasOf : Cond.selects RX3 yX3_biasOf yX3_biasOf ∈ kT := mt_2 (List.mem_of_getElem? (i := 227) rfl) rfl
theorem wc_X3_biasOf : Cond.code yX3_biasOf cX3_biasOf 2 (some .int) ∈ kT := mt_2 (List.mem_of_getElem? (i := 228) rfl) rfl
theorem lm_X3_56 : Cond.methodLink RX3 56 yX3_biasAs ∈ kT := mt_2 (List.mem_of_getElem? (i := 229) rfl) rfl
theorem wi_X3_biasAs : Cond.instanceMethod yX3_biasAs ∈ kT := mt_2 (List.mem_of_getElem? (i := 230) rfl) rfl
theorem ws_X3_biasAs : Cond.selects RX3 yX3_biasAs yX3_biasAs ∈ kT := mt_2 (List.mem_of_getElem? (i := 231) rfl) rfl
theorem wc_X3_biasAs : Cond.code yX3_biasAs cX3_biasAs 3 (some .int) ∈ kT := mt_2 (List.mem_of_getElem? (i := 232) rfl) rfl
theorem lm_L_74 : Cond.methodLink RL 74 yX6_plays ∈ kT := mt_2 (List.mem_of_getElem? (i := 233) rfl) rfl
theorem wi_X6_plays : Cond.instanceMethod yX6_plays ∈ kT := mt_2 (List.mem_of_getElem? (i := 234) rfl) rfl
theorem ws_X6_plays : Cond.selects RX6 yX6_plays yX6_plays ∈ kT := mt_2 (List.mem_of_getElem? (i := 235) rfl) rfl
theorem wc_X6_plays : Cond.code yX6_plays cX6_plays 4 (some .int) ∈ kT := mt_2 (List.mem_of_getElem? (i := 236) rfl) rfl
theorem lm_X6_187 : Cond.methodLink RX6 187 yX3_reaches ∈ kT := mt_2 (List.mem_of_getElem? (i := 237) rfl) rfl
theorem wi_X3_reaches : Cond.instanceMethod yX3_reaches ∈ kT := mt_2 (List.mem_of_getElem? (i := 238) rfl) rfl
theorem ws_X3_reaches : Cond.selects RX3 yX3_reaches yX3_reaches ∈ kT := mt_2 (List.mem_of_getElem? (i := 239) rfl) rfl
theorem wc_X3_reaches : Cond.code yX3_reaches cX3_reaches 4 (some .boolean) ∈ kT := mt_3 (List.mem_of_getElem? (i := 0) rfl) rfl
theorem lm_X3_60 : Cond.methodLink RX3 60 yX3_biasOf ∈ kT := mt_3 (List.mem_of_getElem? (i := 1) rfl) rfl
theorem lm_X3_63 : Cond.methodLink RX3 63 yX3_greatestKey ∈ kT := mt_3 (List.mem_of_getElem? (i := 2) rfl) rfl
theorem wi_X3_greatestKey : Cond.instanceMethod yX3_greatestKey ∈ kT := mt_3 (List.mem_of_getElem? (i := 3) rfl) rfl
theorem ws_X3_greatestKey : Cond.selects RX3 yX3_greatestKey yX3_greatestKey ∈ kT := mt_3 (List.mem_of_getElem? (i := 4) rfl) rfl
theorem wc_X3_greatestKey : Cond.code yX3_greatestKey cX3_greatestKey 5 (some .int) ∈ kT := mt_3 (List.mem_of_getElem? (i := 5) rfl) rfl
theorem lm_X3_69 : Cond.methodLink RX3 69 yX3_stringOf ∈ kT := mt_3 (List.mem_of_getElem? (i := 6) rfl) rfl
theorem lm_X3_77 : Cond.methodLink RX3 77 yJ9_max_7cf53 ∈ kT := mt_3 (List.mem_of_getElem? (i := 7) rfl) rfl
theorem wt_J9_max_7cf53 : Cond.static yJ9_max_7cf53 ∈ kT := mt_3 (List.mem_of_getElem? (i := 8) rfl) rfl
theorem wc_J9_max_7cf53 : Cond.code yJ9_max_7cf53 cJ9_max_7cf53 2 (some .int) ∈ kT := mt_3 (List.mem_of_getElem? (i := 9) rfl) rfl
theorem lm_X3_66 : Cond.methodLink RX3 66 yX3_leastKey ∈ kT := mt_3 (List.mem_of_getElem? (i := 10) rfl) rfl
theorem wi_X3_leastKey : Cond.instanceMethod yX3_leastKey ∈ kT := mt_3 (List.mem_of_getElem? (i := 11) rfl) rfl
theorem ws_X3_leastKey : Cond.selects RX3 yX3_leastKey yX3_leastKey ∈ kT := mt_3 (List.mem_of_getElem? (i := 12) rfl) rfl
theorem wc_X3_leastKey : Cond.code yX3_leastKey cX3_leastKey 5 (some .int) ∈ kT := mt_3 (List.mem_of_getElem? (i := 13) rfl) rfl
theorem lm_X3_72 : Cond.methodLink RX3 72 yJ9_min_7cf53 ∈ kT := mt_3 (List.mem_of_getElem? (i := 14) rfl) rfl
theorem lm_X6_190 : Cond.methodLink RX6 190 yX3_leastKey ∈ kT := mt_3 (List.mem_of_getElem? (i := 15) rfl) rfl
theorem lm_X6_193 : Cond.methodLink RX6 193 yX3_greatestKey ∈ kT := mt_3 (List.mem_of_getElem? (i := 16) rfl) rfl
theorem lm_L_78 : Cond.methodLink RL 78 yX6_heard ∈ kT := mt_3 (List.mem_of_getElem? (i := 17) rfl) rfl
theorem wi_X6_heard : Cond.instanceMethod yX6_heard ∈ kT := mt_3 (List.mem_of_getElem? (i := 18) rfl) rfl
theorem ws_X6_heard : Cond.selects RX6 yX6_heard yX6_heard ∈ kT := mt_3 (List.mem_of_getElem? (i := 19) rfl) rfl
theorem wc_X6_heard : Cond.code yX6_heard cX6_heard 4 (some .int) ∈ kT := mt_3 (List.mem_of_getElem? (i := 20) rfl) rfl
theorem lm_X6_196 : Cond.methodLink RX6 196 yX3_stringHeard ∈ kT := mt_3 (List.mem_of_getElem? (i := 21) rfl) rfl
theorem wi_X3_stringHeard : Cond.instanceMethod yX3_stringHeard ∈ kT := mt_3 (List.mem_of_getElem? (i := 22) rfl) rfl
theorem ws_X3_stringHeard : Cond.selects RX3 yX3_stringHeard yX3_stringHeard ∈ kT := mt_3 (List.mem_of_getElem? (i := 23) rfl) rfl
theorem wc_X3_stringHeard : Cond.code yX3_stringHeard cX3_stringHeard 3 (some .int) ∈ kT := mt_3 (List.mem_of_getElem? (i := 24) rfl) rfl
theorem lm_L_82 : Cond.methodLink RL 82 yX6_strike ∈ kT := mt_3 (List.mem_of_getElem? (i := 25) rfl) rfl
theorem wi_X6_strike : Cond.instanceMethod yX6_strike ∈ kT := mt_3 (List.mem_of_getElem? (i := 26) rfl) rfl
theorem ws_X6_strike : Cond.selects RX6 yX6_strike yX6_strike ∈ kT := mt_3 (List.mem_of_getElem? (i := 27) rfl) rfl
theorem wc_X6_strike : Cond.code yX6_strike cX6_strike 2 (some .int) ∈ kT := mt_3 (List.mem_of_getElem? (i := 28) rfl) rfl
theorem lm_L_86 : Cond.methodLink RL 86 yX6_soon ∈ kT := mt_3 (List.mem_of_getElem? (i := 29) rfl) rfl
theorem wi_X6_soon : Cond.instanceMethod yX6_soon ∈ kT := mt_3 (List.mem_of_getElem? (i := 30) rfl) rfl
theorem ws_X6_soon : Cond.selects RX6 yX6_soon yX6_soon ∈ kT := mt_3 (List.mem_of_getElem? (i := 31) rfl) rfl
theorem wc_X6_soon : Cond.code yX6_soon cX6_soon 2 (some .int) ∈ kT := mt_3 (List.mem_of_getElem? (i := 32) rfl) rfl
theorem lm_X6_202 : Cond.methodLink RX6 202 yX2_firstNightAt ∈ kT := mt_3 (List.mem_of_getElem? (i := 33) rfl) rfl
theorem wi_X2_firstNightAt : Cond.instanceMethod yX2_firstNightAt ∈ kT := mt_3 (List.mem_of_getElem? (i := 34) rfl) rfl
theorem ws_X2_firstNightAt : Cond.selects RX2 yX2_firstNightAt yX2_firstNightAt ∈ kT := mt_3 (List.mem_of_getElem? (i := 35) rfl) rfl
theorem wc_X2_firstNightAt : Cond.code yX2_firstNightAt cX2_firstNightAt 3 (some .int) ∈ kT := mt_3 (List.mem_of_getElem? (i := 36) rfl) rfl
theorem lm_X2_27 : Cond.methodLink RX2 27 yX3_shiftBehind ∈ kT := mt_3 (List.mem_of_getElem? (i := 37) rfl) rfl
theorem lk_X2_31 : Cond.constant RX2 31 (-1000000) ∈ kT := mt_3 (List.mem_of_getElem? (i := 38) rfl) rfl
theorem lm_L_90 : Cond.methodLink RL 90 yX6_together ∈ kT := mt_3 (List.mem_of_getElem? (i := 39) rfl) rfl
theorem wi_X6_together : Cond.instanceMethod yX6_together ∈ kT := mt_3 (List.mem_of_getElem? (i := 40) rfl) rfl
theorem ws_X6_together : Cond.selects RX6 yX6_together yX6_together ∈ kT := mt_3 (List.mem_of_getElem? (i := 41) rfl) rfl
theorem wc_X6_together : Cond.code yX6_together cX6_together 3 (some .int) ∈ kT := mt_3 (List.mem_of_getElem? (i := 42) rfl) rfl
theorem lm_L_94 : Cond.methodLink RL 94 yX6_itself ∈ kT := mt_3 (List.mem_of_getElem? (i := 43) rfl) rfl
theorem wi_X6_itself : Cond.instanceMethod yX6_itself ∈ kT := mt_3 (List.mem_of_getElem? (i := 44) rfl) rfl
theorem ws_X6_itself : Cond.selects RX6 yX6_itself yX6_itself ∈ kT := mt_3 (List.mem_of_getElem? (i := 45) rfl) rfl
theorem wc_X6_itself : Cond.code yX6_itself cX6_itself 1 (some .int) ∈ kT := mt_3 (List.mem_of_getElem? (i := 46) rfl) rfl
theorem lm_L_98 : Cond.methodLink RL 98 yX6_nightsOf ∈ kT := mt_3 (List.mem_of_getElem? (i := 47) rfl) rfl
theorem wi_X6_nightsOf : Cond.instanceMethod yX6_nightsOf ∈ kT := mt_3 (List.mem_of_getElem? (i := 48) rfl) rfl
theorem ws_X6_nightsOf : Cond.selects RX6 yX6_nightsOf yX6_nightsOf ∈ kT := mt_3 (List.mem_of_getElem? (i := 49) rfl) rfl
theorem wc_X6_nightsOf : Cond.code yX6_nightsOf cX6_nightsOf 3 (some .int) ∈ kT := mt_3 (List.mem_of_getElem? (i := 50) rfl) rfl
theorem lm_X6_205 : Cond.methodLink RX6 205 yX2_nightsAt ∈ kT := mt_3 (List.mem_of_getElem? (i := 51) rfl) rfl
theorem wi_X2_nightsAt : Cond.instanceMethod yX2_nightsAt ∈ kT := mt_3 (List.mem_of_getElem? (i := 52) rfl) rfl
theorem ws_X2_nightsAt : Cond.selects RX2 yX2_nightsAt yX2_nightsAt ∈ kT := mt_3 (List.mem_of_getElem? (i := 53) rfl) rfl
theorem wc_X2_nightsAt : Cond.code yX2_nightsAt cX2_nightsAt 5 (some .int) ∈ kT := mt_3 (List.mem_of_getElem? (i := 54) rfl) rfl
theorem lm_L_102 : Cond.methodLink RL 102 yX6_struck ∈ kT := mt_3 (List.mem_of_getElem? (i := 55) rfl) rfl
theorem wi_X6_struck : Cond.instanceMethod yX6_struck ∈ kT := mt_3 (List.mem_of_getElem? (i := 56) rfl) rfl
theorem ws_X6_struck : Cond.selects RX6 yX6_struck yX6_struck ∈ kT := mt_3 (List.mem_of_getElem? (i := 57) rfl) rfl
theorem wc_X6_struck : Cond.code yX6_struck cX6_struck 5 (some .int) ∈ kT := mt_3 (List.mem_of_getElem? (i := 58) rfl) rfl
theorem lm_X6_208 : Cond.methodLink RX6 208 yX2_shiftsBy ∈ kT := mt_3 (List.mem_of_getElem? (i := 59) rfl) rfl
theorem wi_X2_shiftsBy : Cond.instanceMethod yX2_shiftsBy ∈ kT := mt_3 (List.mem_of_getElem? (i := 60) rfl) rfl
theorem ws_X2_shiftsBy : Cond.selects RX2 yX2_shiftsBy yX2_shiftsBy ∈ kT := mt_3 (List.mem_of_getElem? (i := 61) rfl) rfl
theorem wc_X2_shiftsBy : Cond.code yX2_shiftsBy cX2_shiftsBy 7 (some .int) ∈ kT := mt_3 (List.mem_of_getElem? (i := 62) rfl) rfl
theorem lm_X2_36 : Cond.methodLink RX2 36 yX2_wrongsBy ∈ kT := mt_3 (List.mem_of_getElem? (i := 63) rfl) rfl
theorem wi_X2_wrongsBy : Cond.instanceMethod yX2_wrongsBy ∈ kT := mt_3 (List.mem_of_getElem? (i := 65) rfl) rfl
theorem wc_X2_wrongsBy : Cond.code yX2_wrongsBy cX2_wrongsBy 10 (some .int) ∈ kT := mt_3 (List.mem_of_getElem? (i := 66) rfl) rfl
theorem lm_X2_40 : Cond.methodLink RX2 40 yX3_around ∈ kT := mt_3 (List.mem_of_getElem? (i := 67) rfl) rfl
theorem lm_L_107 : Cond.methodLink RL 107 yX6_lessons ∈ kT := mt_3 (List.mem_of_getElem? (i := 68) rfl) rfl
theorem wi_X6_lessons : Cond.instanceMethod yX6_lessons ∈ kT := mt_3 (List.mem_of_getElem? (i := 69) rfl) rfl
theorem ws_X6_lessons : Cond.selects RX6 yX6_lessons yX6_lessons ∈ kT := mt_3 (List.mem_of_getElem? (i := 70) rfl) rfl
theorem wc_X6_lessons : Cond.code yX6_lessons cX6_lessons 4 (some .int) ∈ kT := mt_3 (List.mem_of_getElem? (i := 71) rfl) rfl
theorem lk_X6_212 : Cond.constant RX6 212 (16777215) ∈ kT := mt_3 (List.mem_of_getElem? (i := 72) rfl) rfl
theorem lm_X6_213 : Cond.methodLink RX6 213 yX2_fewestTaught ∈ kT := mt_3 (List.mem_of_getElem? (i := 73) rfl) rfl
theorem wi_X2_fewestTaught : Cond.instanceMethod yX2_fewestTaught ∈ kT := mt_3 (List.mem_of_getElem? (i := 74) rfl) rfl
theorem ws_X2_fewestTaught : Cond.selects RX2 yX2_fewestTaught yX2_fewestTaught ∈ kT := mt_3 (List.mem_of_getElem? (i := 75) rfl) rfl
theorem wc_X2_fewestTaught : Cond.code yX2_fewestTaught cX2_fewestTaught 6 (some .int) ∈ kT := mt_3 (List.mem_of_getElem? (i := 76) rfl) rfl
theorem lm_X2_52 : Cond.methodLink RX2 52 yX3_biasAs ∈ kT := mt_3 (List.mem_of_getElem? (i := 77) rfl) rfl
theorem lm_X2_56 : Cond.methodLink RX2 56 yX3_biasOf ∈ kT := mt_3 (List.mem_of_getElem? (i := 78) rfl) rfl
theorem lm_X2_59 : Cond.methodLink RX2 59 yX2_nightsAt ∈ kT := mt_3 (List.mem_of_getElem? (i := 79) rfl) rfl
theorem lm_X2_62 : Cond.methodLink RX2 62 yX2_nightsIfTaught ∈ kT := mt_3 (List.mem_of_getElem? (i := 80) rfl) rfl
theorem wi_X2_nightsIfTaught : Cond.instanceMethod yX2_nightsIfTaught ∈ kT := mt_3 (List.mem_of_getElem? (i := 82) rfl) rfl
theorem wc_X2_nightsIfTaught : Cond.code yX2_nightsIfTaught cX2_nightsIfTaught 5 (some .int) ∈ kT := mt_3 (List.mem_of_getElem? (i := 83) rfl) rfl
theorem lm_X2_65 : Cond.methodLink RX2 65 yJ6_bitCount_0f7a4 ∈ kT := mt_3 (List.mem_of_getElem? (i := 84) rfl) rfl
theorem wt_J6_bitCount_0f7a4 : Cond.static yJ6_bitCount_0f7a4 ∈ kT := mt_3 (List.mem_of_getElem? (i := 85) rfl) rfl
theorem wc_J6_bitCount_0f7a4 : Cond.code yJ6_bitCount_0f7a4 cJ6_bitCount_0f7a4 1 (some .int) ∈ kT := mt_3 (List.mem_of_getElem? (i := 86) rfl) rfl
theorem lk_J6_265 : Cond.constant RJ6 265 (1431655765) ∈ kT := mt_3 (List.mem_of_getElem? (i := 87) rfl) rfl
theorem lk_J6_266 : Cond.constant RJ6 266 (858993459) ∈ kT := mt_3 (List.mem_of_getElem? (i := 88) rfl) rfl
theorem lk_J6_267 : Cond.constant RJ6 267 (252645135) ∈ kT := mt_3 (List.mem_of_getElem? (i := 89) rfl) rfl
theorem lm_X6_216 : Cond.methodLink RX6 216 yJ6_bitCount_0f7a4 ∈ kT := mt_3 (List.mem_of_getElem? (i := 90) rfl) rfl
theorem lm_L_111 : Cond.methodLink RL 111 yX6_programme ∈ kT := mt_3 (List.mem_of_getElem? (i := 91) rfl) rfl
theorem wi_X6_programme : Cond.instanceMethod yX6_programme ∈ kT := mt_3 (List.mem_of_getElem? (i := 92) rfl) rfl
theorem ws_X6_programme : Cond.selects RX6 yX6_programme yX6_programme ∈ kT := mt_3 (List.mem_of_getElem? (i := 93) rfl) rfl
theorem wc_X6_programme : Cond.code yX6_programme cX6_programme 3 (some .int) ∈ kT := mt_3 (List.mem_of_getElem? (i := 94) rfl) rfl
theorem lm_X6_221 : Cond.methodLink RX6 221 yX2_programmes ∈ kT := mt_3 (List.mem_of_getElem? (i := 95) rfl) rfl
theorem wi_X2_programmes : Cond.instanceMethod yX2_programmes ∈ kT := mt_3 (List.mem_of_getElem? (i := 96) rfl) rfl
theorem ws_X2_programmes : Cond.selects RX2 yX2_programmes yX2_programmes ∈ kT := mt_3 (List.mem_of_getElem? (i := 97) rfl) rfl
theorem wc_X2_programmes : Cond.code yX2_programmes cX2_programmes 2 (some .int) ∈ kT := mt_3 (List.mem_of_getElem? (i := 98) rfl) rfl
theorem lm_X2_70 : Cond.methodLink RX2 70 yX2_findPieceNights ∈ kT := mt_3 (List.mem_of_getElem? (i := 99) rfl) rfl
theorem wi_X2_findPieceNights : Cond.instanceMethod yX2_findPieceNights ∈ kT := mt_3 (List.mem_of_getElem? (i := 101) rfl) rfl
theorem wc_X2_findPieceNights : Cond.code yX2_findPieceNights cX2_findPieceNights 4 none ∈ kT := mt_3 (List.mem_of_getElem? (i := 102) rfl) rfl
theorem lm_X2_83 : Cond.methodLink RX2 83 yX3_reaches ∈ kT := mt_3 (List.mem_of_getElem? (i := 103) rfl) rfl
theorem lm_X2_74 : Cond.methodLink RX2 74 yX2_waysFrom ∈ kT := mt_3 (List.mem_of_getElem? (i := 104) rfl) rfl
theorem wi_X2_waysFrom : Cond.instanceMethod yX2_waysFrom ∈ kT := mt_3 (List.mem_of_getElem? (i := 106) rfl) rfl
theorem wc_X2_waysFrom : Cond.code yX2_waysFrom cX2_waysFrom 7 (some .int) ∈ kT := mt_3 (List.mem_of_getElem? (i := 107) rfl) rfl
theorem lm_X6_224 : Cond.methodLink RX6 224 yX2_nightOfPiece ∈ kT := mt_3 (List.mem_of_getElem? (i := 108) rfl) rfl
theorem wi_X2_nightOfPiece : Cond.instanceMethod yX2_nightOfPiece ∈ kT := mt_3 (List.mem_of_getElem? (i := 109) rfl) rfl
theorem ws_X2_nightOfPiece : Cond.selects RX2 yX2_nightOfPiece yX2_nightOfPiece ∈ kT := mt_3 (List.mem_of_getElem? (i := 110) rfl) rfl
theorem wc_X2_nightOfPiece : Cond.code yX2_nightOfPiece cX2_nightOfPiece 6 (some .int) ∈ kT := mt_3 (List.mem_of_getElem? (i := 111) rfl) rfl
theorem lm_X2_80 : Cond.methodLink RX2 80 yX2_firstNightFor ∈ kT := mt_3 (List.mem_of_getElem? (i := 112) rfl) rfl
theorem wi_X2_firstNightFor : Cond.instanceMethod yX2_firstNightFor ∈ kT := mt_3 (List.mem_of_getElem? (i := 114) rfl) rfl
theorem wc_X2_firstNightFor : Cond.code yX2_firstNightFor cX2_firstNightFor 6 (some .int) ∈ kT := mt_3 (List.mem_of_getElem? (i := 115) rfl) rfl
theorem lm_L_115 : Cond.methodLink RL 115 yX6_chords ∈ kT := mt_3 (List.mem_of_getElem? (i := 116) rfl) rfl
theorem wi_X6_chords : Cond.instanceMethod yX6_chords ∈ kT := mt_3 (List.mem_of_getElem? (i := 117) rfl) rfl
theorem ws_X6_chords : Cond.selects RX6 yX6_chords yX6_chords ∈ kT := mt_3 (List.mem_of_getElem? (i := 118) rfl) rfl
theorem wc_X6_chords : Cond.code yX6_chords cX6_chords 3 (some .int) ∈ kT := mt_3 (List.mem_of_getElem? (i := 119) rfl) rfl
theorem lm_X6_227 : Cond.methodLink RX6 227 yX2_chordCount ∈ kT := mt_3 (List.mem_of_getElem? (i := 120) rfl) rfl
theorem wi_X2_chordCount : Cond.instanceMethod yX2_chordCount ∈ kT := mt_3 (List.mem_of_getElem? (i := 121) rfl) rfl
theorem ws_X2_chordCount : Cond.selects RX2 yX2_chordCount yX2_chordCount ∈ kT := mt_3 (List.mem_of_getElem? (i := 122) rfl) rfl
theorem wc_X2_chordCount : Cond.code yX2_chordCount cX2_chordCount 1 (some .int) ∈ kT := mt_3 (List.mem_of_getElem? (i := 123) rfl) rfl
theorem lm_X2_87 : Cond.methodLink RX2 87 yX2_ownStrings ∈ kT := mt_3 (List.mem_of_getElem? (i := 124) rfl) rfl
theorem wi_X2_ownStrings : Cond.instanceMethod yX2_ownStrings ∈ kT := mt_3 (List.mem_of_getElem? (i := 126) rfl) rfl
theorem wc_X2_ownStrings : Cond.code yX2_ownStrings cX2_ownStrings 1 (some .int) ∈ kT := mt_3 (List.mem_of_getElem? (i := 127) rfl) rfl
theorem lm_X2_99 : Cond.methodLink RX2 99 yX2_divisorOfBoth ∈ kT := mt_3 (List.mem_of_getElem? (i := 128) rfl) rfl
theorem wt_X2_divisorOfBoth : Cond.static yX2_divisorOfBoth ∈ kT := mt_3 (List.mem_of_getElem? (i := 129) rfl) rfl
theorem wc_X2_divisorOfBoth : Cond.code yX2_divisorOfBoth cX2_divisorOfBoth 11 (some .long) ∈ kT := mt_3 (List.mem_of_getElem? (i := 130) rfl) rfl
theorem lm_X6_231 : Cond.methodLink RX6 231 yX2_chordNumber ∈ kT := mt_3 (List.mem_of_getElem? (i := 131) rfl) rfl
theorem wi_X2_chordNumber : Cond.instanceMethod yX2_chordNumber ∈ kT := mt_3 (List.mem_of_getElem? (i := 132) rfl) rfl
theorem ws_X2_chordNumber : Cond.selects RX2 yX2_chordNumber yX2_chordNumber ∈ kT := mt_3 (List.mem_of_getElem? (i := 133) rfl) rfl
theorem wc_X2_chordNumber : Cond.code yX2_chordNumber cX2_chordNumber 5 (some .int) ∈ kT := mt_3 (List.mem_of_getElem? (i := 134) rfl) rfl
theorem lm_X2_91 : Cond.methodLink RX2 91 yJ9_max_7cf53 ∈ kT := mt_3 (List.mem_of_getElem? (i := 135) rfl) rfl
theorem lm_L_119 : Cond.methodLink RL 119 yX6_who ∈ kT := mt_3 (List.mem_of_getElem? (i := 136) rfl) rfl
theorem wi_X6_who : Cond.instanceMethod yX6_who ∈ kT := mt_3 (List.mem_of_getElem? (i := 137) rfl) rfl
theorem ws_X6_who : Cond.selects RX6 yX6_who yX6_who ∈ kT := mt_3 (List.mem_of_getElem? (i := 138) rfl) rfl
theorem wc_X6_who : Cond.code yX6_who cX6_who 5 (some .int) ∈ kT := mt_3 (List.mem_of_getElem? (i := 139) rfl) rfl
theorem lm_X6_234 : Cond.methodLink RX6 234 yX2_kindsHeard ∈ kT := mt_3 (List.mem_of_getElem? (i := 140) rfl) rfl
theorem wi_X2_kindsHeard : Cond.instanceMethod yX2_kindsHeard ∈ kT := mt_3 (List.mem_of_getElem? (i := 141) rfl) rfl
theorem ws_X2_kindsHeard : Cond.selects RX2 yX2_kindsHeard yX2_kindsHeard ∈ kT := mt_3 (List.mem_of_getElem? (i := 142) rfl) rfl
theorem wc_X2_kindsHeard : Cond.code yX2_kindsHeard cX2_kindsHeard 8 (some .int) ∈ kT := mt_3 (List.mem_of_getElem? (i := 143) rfl) rfl
theorem lm_X2_106 : Cond.methodLink RX2 106 yX2_soundsAs ∈ kT := mt_3 (List.mem_of_getElem? (i := 144) rfl) rfl
theorem wi_X2_soundsAs : Cond.instanceMethod yX2_soundsAs ∈ kT := mt_3 (List.mem_of_getElem? (i := 146) rfl) rfl
theorem wc_X2_soundsAs : Cond.code yX2_soundsAs cX2_soundsAs 6 (some .boolean) ∈ kT := mt_3 (List.mem_of_getElem? (i := 147) rfl) rfl
theorem lm_X2_113 : Cond.methodLink RX2 113 yX3_stringOf ∈ kT := mt_3 (List.mem_of_getElem? (i := 148) rfl) rfl
theorem lm_X2_116 : Cond.methodLink RX2 116 yX3_stringHeard ∈ kT := mt_3 (List.mem_of_getElem? (i := 149) rfl) rfl
theorem lm_L_123 : Cond.methodLink RL 123 yX6_tunings ∈ kT := mt_3 (List.mem_of_getElem? (i := 150) rfl) rfl
theorem wi_X6_tunings : Cond.instanceMethod yX6_tunings ∈ kT := mt_3 (List.mem_of_getElem? (i := 151) rfl) rfl
theorem ws_X6_tunings : Cond.selects RX6 yX6_tunings yX6_tunings ∈ kT := mt_3 (List.mem_of_getElem? (i := 152) rfl) rfl
theorem wc_X6_tunings : Cond.code yX6_tunings cX6_tunings 3 (some .int) ∈ kT := mt_3 (List.mem_of_getElem? (i := 153) rfl) rfl
theorem lm_X6_238 : Cond.methodLink RX6 238 yX2_fewestTunings ∈ kT := mt_3 (List.mem_of_getElem? (i := 154) rfl) rfl
theorem wi_X2_fewestTunings : Cond.instanceMethod yX2_fewestTunings ∈ kT := mt_3 (List.mem_of_getElem? (i := 155) rfl) rfl
theorem ws_X2_fewestTunings : Cond.selects RX2 yX2_fewestTunings yX2_fewestTunings ∈ kT := mt_3 (List.mem_of_getElem? (i := 156) rfl) rfl
theorem wc_X2_fewestTunings : Cond.code yX2_fewestTunings cX2_fewestTunings 6 (some .int) ∈ kT := mt_3 (List.mem_of_getElem? (i := 157) rfl) rfl
theorem lm_L_127 : Cond.methodLink RL 127 yX6_other ∈ kT := mt_3 (List.mem_of_getElem? (i := 158) rfl) rfl
theorem wi_X6_other : Cond.instanceMethod yX6_other ∈ kT := mt_3 (List.mem_of_getElem? (i := 159) rfl) rfl
theorem ws_X6_other : Cond.selects RX6 yX6_other yX6_other ∈ kT := mt_3 (List.mem_of_getElem? (i := 160) rfl) rfl
theorem wc_X6_other : Cond.code yX6_other cX6_other 3 (some .int) ∈ kT := mt_3 (List.mem_of_getElem? (i := 161) rfl) rfl
theorem lm_X6_241 : Cond.methodLink RX6 241 yX2_firstNightAlike ∈ kT := mt_3 (List.mem_of_getElem? (i := 162) rfl) rfl
theorem wi_X2_firstNightAlike : Cond.instanceMethod yX2_firstNightAlike ∈ kT := mt_3 (List.mem_of_getElem? (i := 163) rfl) rfl
theorem ws_X2_firstNightAlike : Cond.selects RX2 yX2_firstNightAlike yX2_firstNightAlike ∈ kT := mt_3 (List.mem_of_getElem? (i := 164) rfl) rfl
theorem wc_X2_firstNightAlike : Cond.code yX2_firstNightAlike cX2_firstNightAlike 4 (some .int) ∈ kT := mt_3 (List.mem_of_getElem? (i := 165) rfl) rfl
theorem lm_L_131 : Cond.methodLink RL 131 yX6_thunderOdds ∈ kT := mt_3 (List.mem_of_getElem? (i := 166) rfl) rfl
theorem wi_X6_thunderOdds : Cond.instanceMethod yX6_thunderOdds ∈ kT := mt_3 (List.mem_of_getElem? (i := 167) rfl) rfl
theorem ws_X6_thunderOdds : Cond.selects RX6 yX6_thunderOdds yX6_thunderOdds ∈ kT := mt_3 (List.mem_of_getElem? (i := 168) rfl) rfl
theorem wc_X6_thunderOdds : Cond.code yX6_thunderOdds cX6_thunderOdds 11 (some .long) ∈ kT := mt_3 (List.mem_of_getElem? (i := 169) rfl) rfl
theorem lK_X6_244 : Cond.constantLong RX6 244 (-1000001) ∈ kT := mt_3 (List.mem_of_getElem? (i := 170) rfl) rfl
theorem lm_X6_246 : Cond.methodLink RX6 246 yX2_tenthsRight ∈ kT := mt_3 (List.mem_of_getElem? (i := 171) rfl) rfl
theorem wi_X2_tenthsRight : Cond.instanceMethod yX2_tenthsRight ∈ kT := mt_3 (List.mem_of_getElem? (i := 172) rfl) rfl
theorem ws_X2_tenthsRight : Cond.selects RX2 yX2_tenthsRight yX2_tenthsRight ∈ kT := mt_3 (List.mem_of_getElem? (i := 173) rfl) rfl
theorem wc_X2_tenthsRight : Cond.code yX2_tenthsRight cX2_tenthsRight 7 (some .long) ∈ kT := mt_3 (List.mem_of_getElem? (i := 174) rfl) rfl
theorem lm_X2_119 : Cond.methodLink RX2 119 yX2_choices ∈ kT := mt_3 (List.mem_of_getElem? (i := 175) rfl) rfl
theorem wt_X2_choices : Cond.static yX2_choices ∈ kT := mt_3 (List.mem_of_getElem? (i := 176) rfl) rfl
theorem wc_X2_choices : Cond.code yX2_choices cX2_choices 5 (some .long) ∈ kT := mt_3 (List.mem_of_getElem? (i := 177) rfl) rfl
theorem lm_X2_123 : Cond.methodLink RX2 123 yX2_power ∈ kT := mt_3 (List.mem_of_getElem? (i := 178) rfl) rfl
theorem wt_X2_power : Cond.static yX2_power ∈ kT := mt_3 (List.mem_of_getElem? (i := 179) rfl) rfl
theorem wc_X2_power : Cond.code yX2_power cX2_power 5 (some .long) ∈ kT := mt_3 (List.mem_of_getElem? (i := 180) rfl) rfl
theorem lm_X6_250 : Cond.methodLink RX6 250 yX2_power ∈ kT := mt_3 (List.mem_of_getElem? (i := 181) rfl) rfl
theorem lm_X6_254 : Cond.methodLink RX6 254 yX2_divisorOfBoth ∈ kT := mt_3 (List.mem_of_getElem? (i := 182) rfl) rfl
theorem lm_L_136 : Cond.methodLink RL 136 yX6_drawn ∈ kT := mt_3 (List.mem_of_getElem? (i := 183) rfl) rfl
theorem wi_X6_drawn : Cond.instanceMethod yX6_drawn ∈ kT := mt_3 (List.mem_of_getElem? (i := 184) rfl) rfl
theorem ws_X6_drawn : Cond.selects RX6 yX6_drawn yX6_drawn ∈ kT := mt_3 (List.mem_of_getElem? (i := 185) rfl) rfl
theorem wc_X6_drawn : Cond.code yX6_drawn cX6_drawn 4 (some .int) ∈ kT := mt_3 (List.mem_of_getElem? (i := 186) rfl) rfl
theorem lk_X6_258 : Cond.constant RX6 258 (999999) ∈ kT := mt_3 (List.mem_of_getElem? (i := 187) rfl) rfl
theorem lm_X6_259 : Cond.methodLink RX6 259 yX2_nightsByDraws ∈ kT := mt_3 (List.mem_of_getElem? (i := 188) rfl) rfl
theorem wi_X2_nightsByDraws : Cond.instanceMethod yX2_nightsByDraws ∈ kT := mt_3 (List.mem_of_getElem? (i := 189) rfl) rfl
theorem ws_X2_nightsByDraws : Cond.selects RX2 yX2_nightsByDraws yX2_nightsByDraws ∈ kT := mt_3 (List.mem_of_getElem? (i := 190) rfl) rfl
theorem wc_X2_nightsByDraws : Cond.code yX2_nightsByDraws cX2_nightsByDraws 10 (some .int) ∈ kT := mt_3 (List.mem_of_getElem? (i := 191) rfl) rfl
theorem lm_X2_126 : Cond.methodLink RX2 126 yX2_biasesOfAll ∈ kT := mt_3 (List.mem_of_getElem? (i := 192) rfl) rfl
theorem wi_X2_biasesOfAll : Cond.instanceMethod yX2_biasesOfAll ∈ kT := mt_3 (List.mem_of_getElem? (i := 194) rfl) rfl
theorem wc_X2_biasesOfAll : Cond.code yX2_biasesOfAll cX2_biasesOfAll 3 (some .int) ∈ kT := mt_3 (List.mem_of_getElem? (i := 195) rfl) rfl
theorem lK_X2_129 : Cond.constantLong RX2 129 (16807) ∈ kT := mt_3 (List.mem_of_getElem? (i := 196) rfl) rfl
theorem lK_X2_131 : Cond.constantLong RX2 131 (2147483647) ∈ kT := mt_3 (List.mem_of_getElem? (i := 197) rfl) rfl
theorem lK_X2_133 : Cond.constantLong RX2 133 (5) ∈ kT := mt_3 (List.mem_of_getElem? (i := 198) rfl) rfl
theorem lm_L_140 : Cond.methodLink RL 140 yX6_image ∈ kT := mt_3 (List.mem_of_getElem? (i := 199) rfl) rfl
theorem wi_X6_image : Cond.instanceMethod yX6_image ∈ kT := mt_3 (List.mem_of_getElem? (i := 200) rfl) rfl
theorem ws_X6_image : Cond.selects RX6 yX6_image yX6_image ∈ kT := mt_3 (List.mem_of_getElem? (i := 201) rfl) rfl
theorem wc_X6_image : Cond.code yX6_image cX6_image 2 (some .int) ∈ kT := mt_3 (List.mem_of_getElem? (i := 202) rfl) rfl
theorem lm_X6_263 : Cond.methodLink RX6 263 yX6_isImage ∈ kT := mt_3 (List.mem_of_getElem? (i := 203) rfl) rfl
theorem wt_X6_isImage : Cond.static yX6_isImage ∈ kT := mt_3 (List.mem_of_getElem? (i := 204) rfl) rfl
theorem wc_X6_isImage : Cond.code yX6_isImage cX6_isImage 1 (some .boolean) ∈ kT := mt_3 (List.mem_of_getElem? (i := 205) rfl) rfl
theorem lm_L_144 : Cond.methodLink RL 144 yX6_restore ∈ kT := mt_3 (List.mem_of_getElem? (i := 206) rfl) rfl
theorem wi_X6_restore : Cond.instanceMethod yX6_restore ∈ kT := mt_3 (List.mem_of_getElem? (i := 207) rfl) rfl
theorem ws_X6_restore : Cond.selects RX6 yX6_restore yX6_restore ∈ kT := mt_3 (List.mem_of_getElem? (i := 208) rfl) rfl
theorem wc_X6_restore : Cond.code yX6_restore cX6_restore 2 (some .int) ∈ kT := mt_3 (List.mem_of_getElem? (i := 209) rfl) rfl
theorem lm_L_148 : Cond.methodLink RL 148 yX6_kind ∈ kT := mt_3 (List.mem_of_getElem? (i := 210) rfl) rfl
theorem wi_X6_kind : Cond.instanceMethod yX6_kind ∈ kT := mt_3 (List.mem_of_getElem? (i := 211) rfl) rfl
theorem ws_X6_kind : Cond.selects RX6 yX6_kind yX6_kind ∈ kT := mt_3 (List.mem_of_getElem? (i := 212) rfl) rfl
theorem wc_X6_kind : Cond.code yX6_kind cX6_kind 2 (some .int) ∈ kT := mt_3 (List.mem_of_getElem? (i := 213) rfl) rfl
theorem lm_L_152 : Cond.methodLink RL 152 yX6_as ∈ kT := mt_3 (List.mem_of_getElem? (i := 214) rfl) rfl
theorem wi_X6_as : Cond.instanceMethod yX6_as ∈ kT := mt_3 (List.mem_of_getElem? (i := 215) rfl) rfl
theorem ws_X6_as : Cond.selects RX6 yX6_as yX6_as ∈ kT := mt_3 (List.mem_of_getElem? (i := 216) rfl) rfl
theorem wc_X6_as : Cond.code yX6_as cX6_as 3 (some .int) ∈ kT := mt_3 (List.mem_of_getElem? (i := 217) rfl) rfl
theorem lm_X6_269 : Cond.methodLink RX6 269 yX1_isOfKind ∈ kT := mt_3 (List.mem_of_getElem? (i := 218) rfl) rfl
theorem wt_X1_isOfKind : Cond.static yX1_isOfKind ∈ kT := mt_3 (List.mem_of_getElem? (i := 219) rfl) rfl
theorem wc_X1_isOfKind : Cond.code yX1_isOfKind cX1_isOfKind 2 (some .boolean) ∈ kT := mt_3 (List.mem_of_getElem? (i := 220) rfl) rfl
theorem lf_X1_15 : Cond.fieldLink RX1 15 "KeyDrift$Asked" "ABOVE" "[I" ∈ kT := mt_3 (List.mem_of_getElem? (i := 221) rfl) rfl
theorem wz_ABOVE : Cond.laysStatic "KeyDrift$Asked" "ABOVE" "[I" ∈ lw_tbl := mu_3 (List.mem_of_getElem? (i := 222) rfl)
theorem lm_L_156 : Cond.methodLink RL 156 yX6_ask ∈ kT := mt_3 (List.mem_of_getElem? (i := 223) rfl) rfl
theorem wi_X6_ask : Cond.instanceMethod yX6_ask ∈ kT := mt_3 (List.mem_of_getElem? (i := 224) rfl) rfl
theorem ws_X6_ask : Cond.selects RX6 yX6_ask yX6_ask ∈ kT := mt_3 (List.mem_of_getElem? (i := 225) rfl) rfl
theorem wc_X6_ask : Cond.code yX6_ask cX6_ask 3 (some .int) ∈ kT := mt_3 (List.mem_of_getElem? (i := 226) rfl) rfl
theorem lm_X6_272 : Cond.methodLink RX6 272 yX1_begin ∈ kT := mt_3 (List.mem_of_getElem? (i := 227) rfl) rfl
theorem wi_X1_begin : Cond.instanceMethod yX1_begin ∈ kT := mt_3 (List.mem_of_getElem? (i := 228) rfl) rfl
theorem ws_X1_begin : Cond.selects RX1 yX1_begin yX1_begin ∈ kT := mt_3 (List.mem_of_getElem? (i := 229) rfl) rfl
theorem wc_X1_begin : Cond.code yX1_begin cX1_begin 5 none ∈ kT := mt_3 (List.mem_of_getElem? (i := 230) rfl) rfl
theorem lm_X6_275 : Cond.methodLink RX6 275 yX1_sizeOfOne ∈ kT := mt_3 (List.mem_of_getElem? (i := 231) rfl) rfl
theorem wi_X1_sizeOfOne : Cond.instanceMethod yX1_sizeOfOne ∈ kT := mt_3 (List.mem_of_getElem? (i := 232) rfl) rfl
theorem ws_X1_sizeOfOne : Cond.selects RX1 yX1_sizeOfOne yX1_sizeOfOne ∈ kT := mt_3 (List.mem_of_getElem? (i := 233) rfl) rfl
theorem wc_X1_sizeOfOne : Cond.code yX1_sizeOfOne cX1_sizeOfOne 1 (some .int) ∈ kT := mt_3 (List.mem_of_getElem? (i := 234) rfl) rfl
theorem lm_X1_34 : Cond.methodLink RX1 34 yX1_leave ∈ kT := mt_3 (List.mem_of_getElem? (i := 235) rfl) rfl
theorem wi_X1_leave : Cond.instanceMethod yX1_leave ∈ kT := mt_3 (List.mem_of_getElem? (i := 237) rfl) rfl
theorem wc_X1_leave : Cond.code yX1_leave cX1_leave 2 none ∈ kT := mt_3 (List.mem_of_getElem? (i := 238) rfl) rfl
theorem lm_X1_38 : Cond.methodLink RX1 38 yX1_body11 ∈ kT := mt_3 (List.mem_of_getElem? (i := 239) rfl) rfl
theorem wi_X1_body11 : Cond.instanceMethod yX1_body11 ∈ kT := mt_4 (List.mem_of_getElem? (i := 1) rfl) rfl
theorem wc_X1_body11 : Cond.code yX1_body11 cX1_body11 2 (some .int) ∈ kT := mt_4 (List.mem_of_getElem? (i := 2) rfl) rfl
theorem lm_X1_61 : Cond.methodLink RX1 61 yX1_body10 ∈ kT := mt_4 (List.mem_of_getElem? (i := 3) rfl) rfl
theorem wi_X1_body10 : Cond.instanceMethod yX1_body10 ∈ kT := mt_4 (List.mem_of_getElem? (i := 5) rfl) rfl
theorem wc_X1_body10 : Cond.code yX1_body10 cX1_body10 1 (some .int) ∈ kT := mt_4 (List.mem_of_getElem? (i := 6) rfl) rfl
theorem lm_X1_52 : Cond.methodLink RX1 52 yX1_markOfPlayer ∈ kT := mt_4 (List.mem_of_getElem? (i := 7) rfl) rfl
theorem wi_X1_markOfPlayer : Cond.instanceMethod yX1_markOfPlayer ∈ kT := mt_4 (List.mem_of_getElem? (i := 9) rfl) rfl
theorem wc_X1_markOfPlayer : Cond.code yX1_markOfPlayer cX1_markOfPlayer 1 (some .int) ∈ kT := mt_4 (List.mem_of_getElem? (i := 10) rfl) rfl
theorem lm_X1_58 : Cond.methodLink RX1 58 yX1_body21 ∈ kT := mt_4 (List.mem_of_getElem? (i := 11) rfl) rfl
theorem wi_X1_body21 : Cond.instanceMethod yX1_body21 ∈ kT := mt_4 (List.mem_of_getElem? (i := 13) rfl) rfl
theorem wc_X1_body21 : Cond.code yX1_body21 cX1_body21 1 (some .int) ∈ kT := mt_4 (List.mem_of_getElem? (i := 14) rfl) rfl
theorem lm_X1_64 : Cond.methodLink RX1 64 yX1_body20 ∈ kT := mt_4 (List.mem_of_getElem? (i := 15) rfl) rfl
theorem wi_X1_body20 : Cond.instanceMethod yX1_body20 ∈ kT := mt_4 (List.mem_of_getElem? (i := 17) rfl) rfl
theorem wc_X1_body20 : Cond.code yX1_body20 cX1_body20 1 (some .int) ∈ kT := mt_4 (List.mem_of_getElem? (i := 18) rfl) rfl
theorem lm_X1_42 : Cond.methodLink RX1 42 yX1_sizeOfCarrier ∈ kT := mt_4 (List.mem_of_getElem? (i := 19) rfl) rfl
theorem wi_X1_sizeOfCarrier : Cond.instanceMethod yX1_sizeOfCarrier ∈ kT := mt_4 (List.mem_of_getElem? (i := 21) rfl) rfl
theorem wc_X1_sizeOfCarrier : Cond.code yX1_sizeOfCarrier cX1_sizeOfCarrier 1 (some .int) ∈ kT := mt_4 (List.mem_of_getElem? (i := 22) rfl) rfl
theorem lm_X1_55 : Cond.methodLink RX1 55 yX1_body13 ∈ kT := mt_4 (List.mem_of_getElem? (i := 23) rfl) rfl
theorem wi_X1_body13 : Cond.instanceMethod yX1_body13 ∈ kT := mt_4 (List.mem_of_getElem? (i := 25) rfl) rfl
theorem wc_X1_body13 : Cond.code yX1_body13 cX1_body13 1 (some .int) ∈ kT := mt_4 (List.mem_of_getElem? (i := 26) rfl) rfl
theorem lm_X6_278 : Cond.methodLink RX6 278 yX1_markOfOne ∈ kT := mt_4 (List.mem_of_getElem? (i := 27) rfl) rfl
theorem wi_X1_markOfOne : Cond.instanceMethod yX1_markOfOne ∈ kT := mt_4 (List.mem_of_getElem? (i := 28) rfl) rfl
theorem ws_X1_markOfOne : Cond.selects RX1 yX1_markOfOne yX1_markOfOne ∈ kT := mt_4 (List.mem_of_getElem? (i := 29) rfl) rfl
theorem wc_X1_markOfOne : Cond.code yX1_markOfOne cX1_markOfOne 1 (some .int) ∈ kT := mt_4 (List.mem_of_getElem? (i := 30) rfl) rfl
theorem lm_X1_45 : Cond.methodLink RX1 45 yX1_isOfKind ∈ kT := mt_4 (List.mem_of_getElem? (i := 31) rfl) rfl
theorem lm_X1_49 : Cond.methodLink RX1 49 yX1_body23 ∈ kT := mt_4 (List.mem_of_getElem? (i := 32) rfl) rfl
theorem wi_X1_body23 : Cond.instanceMethod yX1_body23 ∈ kT := mt_4 (List.mem_of_getElem? (i := 34) rfl) rfl
theorem wc_X1_body23 : Cond.code yX1_body23 cX1_body23 2 (some .int) ∈ kT := mt_4 (List.mem_of_getElem? (i := 35) rfl) rfl
theorem lm_L_160 : Cond.methodLink RL 160 yX6_trace ∈ kT := mt_4 (List.mem_of_getElem? (i := 36) rfl) rfl
theorem wi_X6_trace : Cond.instanceMethod yX6_trace ∈ kT := mt_4 (List.mem_of_getElem? (i := 37) rfl) rfl
theorem ws_X6_trace : Cond.selects RX6 yX6_trace yX6_trace ∈ kT := mt_4 (List.mem_of_getElem? (i := 38) rfl) rfl
theorem wc_X6_trace : Cond.code yX6_trace cX6_trace 2 (some .int) ∈ kT := mt_4 (List.mem_of_getElem? (i := 39) rfl) rfl
theorem lm_L_164 : Cond.methodLink RL 164 yX6_count ∈ kT := mt_4 (List.mem_of_getElem? (i := 40) rfl) rfl
theorem wi_X6_count : Cond.instanceMethod yX6_count ∈ kT := mt_4 (List.mem_of_getElem? (i := 41) rfl) rfl
theorem ws_X6_count : Cond.selects RX6 yX6_count yX6_count ∈ kT := mt_4 (List.mem_of_getElem? (i := 42) rfl) rfl
theorem wc_X6_count : Cond.code yX6_count cX6_count 2 (some .int) ∈ kT := mt_4 (List.mem_of_getElem? (i := 43) rfl) rfl
theorem lm_X6_287 : Cond.methodLink RX6 287 yX6_rowsThere ∈ kT := mt_4 (List.mem_of_getElem? (i := 44) rfl) rfl
theorem wi_X6_rowsThere : Cond.instanceMethod yX6_rowsThere ∈ kT := mt_4 (List.mem_of_getElem? (i := 46) rfl) rfl
theorem wc_X6_rowsThere : Cond.code yX6_rowsThere cX6_rowsThere 3 (some .int) ∈ kT := mt_4 (List.mem_of_getElem? (i := 47) rfl) rfl
theorem lm_L_168 : Cond.methodLink RL 168 yX6_status ∈ kT := mt_4 (List.mem_of_getElem? (i := 48) rfl) rfl
theorem wi_X6_status : Cond.instanceMethod yX6_status ∈ kT := mt_4 (List.mem_of_getElem? (i := 49) rfl) rfl
theorem ws_X6_status : Cond.selects RX6 yX6_status yX6_status ∈ kT := mt_4 (List.mem_of_getElem? (i := 50) rfl) rfl
theorem wc_X6_status : Cond.code yX6_status cX6_status 1 (some .int) ∈ kT := mt_4 (List.mem_of_getElem? (i := 51) rfl) rfl
theorem lc_L_10 : Cond.classLink RL 10 RX7 ∈ kT := mt_4 (List.mem_of_getElem? (i := 52) rfl) rfl
theorem wa_X7 : Cond.instantiable RX7 26 ∈ kT := mt_4 (List.mem_of_getElem? (i := 53) rfl) rfl
theorem lm_L_12 : Cond.methodLink RL 12 yX7_init ∈ kT := mt_4 (List.mem_of_getElem? (i := 54) rfl) rfl
theorem wi_X7_init : Cond.instanceMethod yX7_init ∈ kT := mt_4 (List.mem_of_getElem? (i := 55) rfl) rfl
theorem wc_X7_init : Cond.code yX7_init cX7_init 2 none ∈ kT := mt_4 (List.mem_of_getElem? (i := 56) rfl) rfl
theorem lm_X7_1 : Cond.methodLink RX7 1 objectInit ∈ kT := mt_4 (List.mem_of_getElem? (i := 57) rfl) rfl
theorem lf_X7_7 : Cond.fieldLink RX7 7 "KeyDriftModel" "lanes" "[I" ∈ kT := mt_4 (List.mem_of_getElem? (i := 58) rfl) rfl
theorem lf_X7_13 : Cond.fieldLink RX7 13 "KeyDriftModel" "sizes" "[I" ∈ kT := mt_4 (List.mem_of_getElem? (i := 59) rfl) rfl
theorem lf_X7_16 : Cond.fieldLink RX7 16 "KeyDriftModel" "items" "[I" ∈ kT := mt_4 (List.mem_of_getElem? (i := 60) rfl) rfl
theorem lf_X7_50 : Cond.fieldLink RX7 50 "KeyDriftModel" "status" "I" ∈ kT := mt_4 (List.mem_of_getElem? (i := 61) rfl) rfl
theorem lf_X7_138 : Cond.fieldLink RX7 138 "KeyDriftModel" "isThere" "Z" ∈ kT := mt_4 (List.mem_of_getElem? (i := 62) rfl) rfl
theorem lf_X7_19 : Cond.fieldLink RX7 19 "KeyDriftModel" "st" "[I" ∈ kT := mt_4 (List.mem_of_getElem? (i := 63) rfl) rfl
theorem lf_X7_22 : Cond.fieldLink RX7 22 "KeyDriftModel" "moved" "[I" ∈ kT := mt_4 (List.mem_of_getElem? (i := 64) rfl) rfl
theorem lf_X7_25 : Cond.fieldLink RX7 25 "KeyDriftModel" "tape" "[I" ∈ kT := mt_4 (List.mem_of_getElem? (i := 65) rfl) rfl
theorem lf_X7_81 : Cond.fieldLink RX7 81 "KeyDriftModel" "bytes" "I" ∈ kT := mt_4 (List.mem_of_getElem? (i := 66) rfl) rfl
theorem lf_X7_134 : Cond.fieldLink RX7 134 "KeyDriftModel" "latest" "I" ∈ kT := mt_4 (List.mem_of_getElem? (i := 67) rfl) rfl
theorem lf_X7_85 : Cond.fieldLink RX7 85 "KeyDriftModel" "place" "I" ∈ kT := mt_4 (List.mem_of_getElem? (i := 68) rfl) rfl
theorem lf_X7_91 : Cond.fieldLink RX7 91 "KeyDriftModel" "token" "I" ∈ kT := mt_4 (List.mem_of_getElem? (i := 69) rfl) rfl
theorem lf_X7_94 : Cond.fieldLink RX7 94 "KeyDriftModel" "value" "I" ∈ kT := mt_4 (List.mem_of_getElem? (i := 70) rfl) rfl
theorem lf_X7_88 : Cond.fieldLink RX7 88 "KeyDriftModel" "begins" "I" ∈ kT := mt_4 (List.mem_of_getElem? (i := 71) rfl) rfl
theorem lf_X7_105 : Cond.fieldLink RX7 105 "KeyDriftModel" "wrong" "I" ∈ kT := mt_4 (List.mem_of_getElem? (i := 72) rfl) rfl
theorem lf_X7_28 : Cond.fieldLink RX7 28 "KeyDriftModel" "read" "[I" ∈ kT := mt_4 (List.mem_of_getElem? (i := 73) rfl) rfl
theorem lf_X7_31 : Cond.fieldLink RX7 31 "KeyDriftModel" "acts" "[I" ∈ kT := mt_4 (List.mem_of_getElem? (i := 74) rfl) rfl
theorem lf_X7_142 : Cond.fieldLink RX7 142 "KeyDriftModel" "actMany" "I" ∈ kT := mt_4 (List.mem_of_getElem? (i := 75) rfl) rfl
theorem lf_X7_172 : Cond.fieldLink RX7 172 "KeyDriftModel" "leastKey" "I" ∈ kT := mt_4 (List.mem_of_getElem? (i := 76) rfl) rfl
theorem lf_X7_175 : Cond.fieldLink RX7 175 "KeyDriftModel" "mostKey" "I" ∈ kT := mt_4 (List.mem_of_getElem? (i := 77) rfl) rfl
theorem lf_X7_34 : Cond.fieldLink RX7 34 "KeyDriftModel" "fewest" "[I" ∈ kT := mt_4 (List.mem_of_getElem? (i := 78) rfl) rfl
theorem lf_X7_37 : Cond.fieldLink RX7 37 "KeyDriftModel" "then" "[I" ∈ kT := mt_4 (List.mem_of_getElem? (i := 79) rfl) rfl
theorem lf_X7_40 : Cond.fieldLink RX7 40 "KeyDriftModel" "isKept" "[Z" ∈ kT := mt_4 (List.mem_of_getElem? (i := 80) rfl) rfl
theorem lf_X7_44 : Cond.fieldLink RX7 44 "KeyDriftModel" "kept" "[I" ∈ kT := mt_4 (List.mem_of_getElem? (i := 81) rfl) rfl
theorem lf_X7_47 : Cond.fieldLink RX7 47 "KeyDriftModel" "trace" "[I" ∈ kT := mt_4 (List.mem_of_getElem? (i := 82) rfl) rfl
theorem lf_X7_231 : Cond.fieldLink RX7 231 "KeyDriftModel" "traced" "I" ∈ kT := mt_4 (List.mem_of_getElem? (i := 83) rfl) rfl
theorem wy_boolean : Cond.arrayClass .boolean ∈ kT := mt_4 (List.mem_of_getElem? (i := 137) rfl) rfl
theorem lm_L_17 : Cond.methodLink RL 17 yX7_row ∈ kT := mt_4 (List.mem_of_getElem? (i := 138) rfl) rfl
theorem wi_X7_row : Cond.instanceMethod yX7_row ∈ kT := mt_4 (List.mem_of_getElem? (i := 139) rfl) rfl
theorem ws_X7_row : Cond.selects RX7 yX7_row yX7_row ∈ kT := mt_4 (List.mem_of_getElem? (i := 140) rfl) rfl
theorem wc_X7_row : Cond.code yX7_row cX7_row 5 (some .int) ∈ kT := mt_4 (List.mem_of_getElem? (i := 141) rfl) rfl
theorem lm_X7_61 : Cond.methodLink RX7 61 yX7_isRow ∈ kT := mt_4 (List.mem_of_getElem? (i := 142) rfl) rfl
theorem wt_X7_isRow : Cond.static yX7_isRow ∈ kT := mt_4 (List.mem_of_getElem? (i := 143) rfl) rfl
theorem wc_X7_isRow : Cond.code yX7_isRow cX7_isRow 1 (some .boolean) ∈ kT := mt_4 (List.mem_of_getElem? (i := 144) rfl) rfl
theorem lK_X7_55 : Cond.constantLong RX7 55 (7) ∈ kT := mt_4 (List.mem_of_getElem? (i := 145) rfl) rfl
theorem lm_X7_57 : Cond.methodLink RX7 57 yX7_in ∈ kT := mt_4 (List.mem_of_getElem? (i := 146) rfl) rfl
theorem wt_X7_in : Cond.static yX7_in ∈ kT := mt_4 (List.mem_of_getElem? (i := 147) rfl) rfl
theorem wc_X7_in : Cond.code yX7_in cX7_in 6 (some .boolean) ∈ kT := mt_4 (List.mem_of_getElem? (i := 148) rfl) rfl
theorem lK_X7_65 : Cond.constantLong RX7 65 (2) ∈ kT := mt_4 (List.mem_of_getElem? (i := 149) rfl) rfl
theorem lk_X7_67 : Cond.constant RX7 67 (-1000001) ∈ kT := mt_4 (List.mem_of_getElem? (i := 150) rfl) rfl
theorem lm_X7_68 : Cond.methodLink RX7 68 yX7_find ∈ kT := mt_4 (List.mem_of_getElem? (i := 151) rfl) rfl
theorem wi_X7_find : Cond.instanceMethod yX7_find ∈ kT := mt_4 (List.mem_of_getElem? (i := 153) rfl) rfl
theorem wc_X7_find : Cond.code yX7_find cX7_find 2 (some .int) ∈ kT := mt_4 (List.mem_of_getElem? (i := 154) rfl) rfl
theorem lk_X7_54 : Cond.constant RX7 54 (-1000010) ∈ kT := mt_4 (List.mem_of_getElem? (i := 155) rfl) rfl
theorem lm_X7_72 : Cond.methodLink RX7 72 yX7_well ∈ kT := mt_4 (List.mem_of_getElem? (i := 156) rfl) rfl
theorem wi_X7_well : Cond.instanceMethod yX7_well ∈ kT := mt_4 (List.mem_of_getElem? (i := 158) rfl) rfl
theorem wc_X7_well : Cond.code yX7_well cX7_well 2 (some .int) ∈ kT := mt_4 (List.mem_of_getElem? (i := 159) rfl) rfl
theorem lm_L_21 : Cond.methodLink RL 21 yX7_set ∈ kT := mt_4 (List.mem_of_getElem? (i := 160) rfl) rfl
theorem wi_X7_set : Cond.instanceMethod yX7_set ∈ kT := mt_4 (List.mem_of_getElem? (i := 161) rfl) rfl
theorem ws_X7_set : Cond.selects RX7 yX7_set yX7_set ∈ kT := mt_4 (List.mem_of_getElem? (i := 162) rfl) rfl
theorem wc_X7_set : Cond.code yX7_set cX7_set 4 (some .int) ∈ kT := mt_4 (List.mem_of_getElem? (i := 163) rfl) rfl
theorem lm_X7_75 : Cond.methodLink RX7 75 yX7_asLane ∈ kT := mt_4 (List.mem_of_getElem? (i := 164) rfl) rfl
theorem wt_X7_asLane : Cond.static yX7_asLane ∈ kT := mt_4 (List.mem_of_getElem? (i := 165) rfl) rfl
theorem wc_X7_asLane : Cond.code yX7_asLane cX7_asLane 2 (some .int) ∈ kT := mt_4 (List.mem_of_getElem? (i := 166) rfl) rfl
theorem lm_L_26 : Cond.methodLink RL 26 yX7_copy ∈ kT := mt_4 (List.mem_of_getElem? (i := 167) rfl) rfl
theorem wi_X7_copy : Cond.instanceMethod yX7_copy ∈ kT := mt_4 (List.mem_of_getElem? (i := 168) rfl) rfl
theorem ws_X7_copy : Cond.selects RX7 yX7_copy yX7_copy ∈ kT := mt_4 (List.mem_of_getElem? (i := 169) rfl) rfl
theorem wc_X7_copy : Cond.code yX7_copy cX7_copy 7 (some .int) ∈ kT := mt_4 (List.mem_of_getElem? (i := 170) rfl) rfl
theorem lm_L_31 : Cond.methodLink RL 31 yX7_drop ∈ kT := mt_4 (List.mem_of_getElem? (i := 171) rfl) rfl
theorem wi_X7_drop : Cond.instanceMethod yX7_drop ∈ kT := mt_4 (List.mem_of_getElem? (i := 172) rfl) rfl
theorem ws_X7_drop : Cond.selects RX7 yX7_drop yX7_drop ∈ kT := mt_4 (List.mem_of_getElem? (i := 173) rfl) rfl
theorem wc_X7_drop : Cond.code yX7_drop cX7_drop 3 (some .int) ∈ kT := mt_4 (List.mem_of_getElem? (i := 174) rfl) rfl
theorem lm_L_35 : Cond.methodLink RL 35 yX7_feed ∈ kT := mt_4 (List.mem_of_getElem? (i := 175) rfl) rfl
theorem wi_X7_feed : Cond.instanceMethod yX7_feed ∈ kT := mt_4 (List.mem_of_getElem? (i := 176) rfl) rfl
theorem ws_X7_feed : Cond.selects RX7 yX7_feed yX7_feed ∈ kT := mt_4 (List.mem_of_getElem? (i := 177) rfl) rfl
theorem wc_X7_feed : Cond.code yX7_feed cX7_feed 2 (some .int) ∈ kT := mt_4 (List.mem_of_getElem? (i := 178) rfl) rfl
theorem lK_X7_79 : Cond.constantLong RX7 79 (255) ∈ kT := mt_4 (List.mem_of_getElem? (i := 179) rfl) rfl
theorem lk_X7_84 : Cond.constant RX7 84 (-1000003) ∈ kT := mt_4 (List.mem_of_getElem? (i := 180) rfl) rfl
theorem lm_L_40 : Cond.methodLink RL 40 yX7_hall ∈ kT := mt_4 (List.mem_of_getElem? (i := 181) rfl) rfl
theorem wi_X7_hall : Cond.instanceMethod yX7_hall ∈ kT := mt_4 (List.mem_of_getElem? (i := 182) rfl) rfl
theorem ws_X7_hall : Cond.selects RX7 yX7_hall yX7_hall ∈ kT := mt_4 (List.mem_of_getElem? (i := 183) rfl) rfl
theorem wc_X7_hall : Cond.code yX7_hall cX7_hall 3 (some .int) ∈ kT := mt_4 (List.mem_of_getElem? (i := 184) rfl) rfl
theorem lm_X7_131 : Cond.methodLink RX7 131 yX7_readHall ∈ kT := mt_4 (List.mem_of_getElem? (i := 185) rfl) rfl
theorem wi_X7_readHall : Cond.instanceMethod yX7_readHall ∈ kT := mt_4 (List.mem_of_getElem? (i := 187) rfl) rfl
theorem wc_X7_readHall : Cond.code yX7_readHall cX7_readHall 3 (some .boolean) ∈ kT := mt_4 (List.mem_of_getElem? (i := 188) rfl) rfl
theorem lm_X7_114 : Cond.methodLink RX7 114 yX7_nextToken ∈ kT := mt_4 (List.mem_of_getElem? (i := 189) rfl) rfl
theorem wi_X7_nextToken : Cond.instanceMethod yX7_nextToken ∈ kT := mt_4 (List.mem_of_getElem? (i := 191) rfl) rfl
theorem wc_X7_nextToken : Cond.code yX7_nextToken cX7_nextToken 1 none ∈ kT := mt_4 (List.mem_of_getElem? (i := 192) rfl) rfl
theorem lK_X7_97 : Cond.constantLong RX7 97 (48) ∈ kT := mt_4 (List.mem_of_getElem? (i := 193) rfl) rfl
theorem lK_X7_99 : Cond.constantLong RX7 99 (57) ∈ kT := mt_4 (List.mem_of_getElem? (i := 194) rfl) rfl
theorem lK_X7_101 : Cond.constantLong RX7 101 (97) ∈ kT := mt_4 (List.mem_of_getElem? (i := 195) rfl) rfl
theorem lK_X7_103 : Cond.constantLong RX7 103 (122) ∈ kT := mt_4 (List.mem_of_getElem? (i := 196) rfl) rfl
theorem lm_X7_117 : Cond.methodLink RX7 117 yX7_takes ∈ kT := mt_4 (List.mem_of_getElem? (i := 197) rfl) rfl
theorem wi_X7_takes : Cond.instanceMethod yX7_takes ∈ kT := mt_4 (List.mem_of_getElem? (i := 199) rfl) rfl
theorem wc_X7_takes : Cond.code yX7_takes cX7_takes 2 (some .boolean) ∈ kT := mt_4 (List.mem_of_getElem? (i := 200) rfl) rfl
theorem lm_X7_108 : Cond.methodLink RX7 108 yX7_isLetter ∈ kT := mt_4 (List.mem_of_getElem? (i := 201) rfl) rfl
theorem wi_X7_isLetter : Cond.instanceMethod yX7_isLetter ∈ kT := mt_4 (List.mem_of_getElem? (i := 203) rfl) rfl
theorem wc_X7_isLetter : Cond.code yX7_isLetter cX7_isLetter 2 (some .boolean) ∈ kT := mt_4 (List.mem_of_getElem? (i := 204) rfl) rfl
theorem lm_X7_111 : Cond.methodLink RX7 111 yX7_faults ∈ kT := mt_4 (List.mem_of_getElem? (i := 205) rfl) rfl
theorem wi_X7_faults : Cond.instanceMethod yX7_faults ∈ kT := mt_4 (List.mem_of_getElem? (i := 207) rfl) rfl
theorem wc_X7_faults : Cond.code yX7_faults cX7_faults 2 (some .boolean) ∈ kT := mt_4 (List.mem_of_getElem? (i := 208) rfl) rfl
theorem lm_X7_120 : Cond.methodLink RX7 120 yX7_takesNumber ∈ kT := mt_4 (List.mem_of_getElem? (i := 209) rfl) rfl
theorem wi_X7_takesNumber : Cond.instanceMethod yX7_takesNumber ∈ kT := mt_4 (List.mem_of_getElem? (i := 211) rfl) rfl
theorem wc_X7_takesNumber : Cond.code yX7_takesNumber cX7_takesNumber 5 (some .boolean) ∈ kT := mt_4 (List.mem_of_getElem? (i := 212) rfl) rfl
theorem lm_X7_124 : Cond.methodLink RX7 124 yX7_readPupil ∈ kT := mt_4 (List.mem_of_getElem? (i := 213) rfl) rfl
theorem wi_X7_readPupil : Cond.instanceMethod yX7_readPupil ∈ kT := mt_4 (List.mem_of_getElem? (i := 215) rfl) rfl
theorem wc_X7_readPupil : Cond.code yX7_readPupil cX7_readPupil 3 (some .boolean) ∈ kT := mt_4 (List.mem_of_getElem? (i := 216) rfl) rfl
theorem lm_X7_127 : Cond.methodLink RX7 127 yX7_readPiece ∈ kT := mt_4 (List.mem_of_getElem? (i := 217) rfl) rfl
theorem wi_X7_readPiece : Cond.instanceMethod yX7_readPiece ∈ kT := mt_4 (List.mem_of_getElem? (i := 219) rfl) rfl
theorem wc_X7_readPiece : Cond.code yX7_readPiece cX7_readPiece 2 (some .boolean) ∈ kT := mt_4 (List.mem_of_getElem? (i := 220) rfl) rfl
theorem lk_X7_137 : Cond.constant RX7 137 (-1000100) ∈ kT := mt_4 (List.mem_of_getElem? (i := 221) rfl) rfl
theorem lm_L_44 : Cond.methodLink RL 44 yX7_fault ∈ kT := mt_4 (List.mem_of_getElem? (i := 222) rfl) rfl
theorem wi_X7_fault : Cond.instanceMethod yX7_fault ∈ kT := mt_4 (List.mem_of_getElem? (i := 223) rfl) rfl
theorem ws_X7_fault : Cond.selects RX7 yX7_fault yX7_fault ∈ kT := mt_4 (List.mem_of_getElem? (i := 224) rfl) rfl
theorem wc_X7_fault : Cond.code yX7_fault cX7_fault 1 (some .int) ∈ kT := mt_4 (List.mem_of_getElem? (i := 225) rfl) rfl
theorem lm_L_48 : Cond.methodLink RL 48 yX7_undo ∈ kT := mt_4 (List.mem_of_getElem? (i := 226) rfl) rfl
theorem wi_X7_undo : Cond.instanceMethod yX7_undo ∈ kT := mt_4 (List.mem_of_getElem? (i := 227) rfl) rfl
theorem ws_X7_undo : Cond.selects RX7 yX7_undo yX7_undo ∈ kT := mt_4 (List.mem_of_getElem? (i := 228) rfl) rfl
theorem wc_X7_undo : Cond.code yX7_undo cX7_undo 2 (some .int) ∈ kT := mt_4 (List.mem_of_getElem? (i := 229) rfl) rfl
theorem lk_X7_145 : Cond.constant RX7 145 (-1000002) ∈ kT := mt_4 (List.mem_of_getElem? (i := 230) rfl) rfl
theorem lm_L_52 : Cond.methodLink RL 52 yX7_nights ∈ kT := mt_4 (List.mem_of_getElem? (i := 231) rfl) rfl
theorem wi_X7_nights : Cond.instanceMethod yX7_nights ∈ kT := mt_4 (List.mem_of_getElem? (i := 232) rfl) rfl
theorem ws_X7_nights : Cond.selects RX7 yX7_nights yX7_nights ∈ kT := mt_4 (List.mem_of_getElem? (i := 233) rfl) rfl
theorem wc_X7_nights : Cond.code yX7_nights cX7_nights 3 (some .int) ∈ kT := mt_4 (List.mem_of_getElem? (i := 234) rfl) rfl
theorem lK_X7_149 : Cond.constantLong RX7 149 (24) ∈ kT := mt_4 (List.mem_of_getElem? (i := 235) rfl) rfl
theorem lm_X7_151 : Cond.methodLink RX7 151 yX7_note ∈ kT := mt_4 (List.mem_of_getElem? (i := 236) rfl) rfl
theorem wi_X7_note : Cond.instanceMethod yX7_note ∈ kT := mt_4 (List.mem_of_getElem? (i := 238) rfl) rfl
theorem wc_X7_note : Cond.code yX7_note cX7_note 2 none ∈ kT := mt_4 (List.mem_of_getElem? (i := 239) rfl) rfl
theorem lm_X7_154 : Cond.methodLink RX7 154 yX7_shiftIn ∈ kT := mt_5 (List.mem_of_getElem? (i := 0) rfl) rfl
theorem wi_X7_shiftIn : Cond.instanceMethod yX7_shiftIn ∈ kT := mt_5 (List.mem_of_getElem? (i := 2) rfl) rfl
theorem wc_X7_shiftIn : Cond.code yX7_shiftIn cX7_shiftIn 2 (some .int) ∈ kT := mt_5 (List.mem_of_getElem? (i := 3) rfl) rfl
theorem lm_X7_146 : Cond.methodLink RX7 146 yX7_over ∈ kT := mt_5 (List.mem_of_getElem? (i := 4) rfl) rfl
theorem wi_X7_over : Cond.instanceMethod yX7_over ∈ kT := mt_5 (List.mem_of_getElem? (i := 6) rfl) rfl
theorem wc_X7_over : Cond.code yX7_over cX7_over 3 (some .int) ∈ kT := mt_5 (List.mem_of_getElem? (i := 7) rfl) rfl
theorem lm_L_56 : Cond.methodLink RL 56 yX7_thunder ∈ kT := mt_5 (List.mem_of_getElem? (i := 8) rfl) rfl
theorem wi_X7_thunder : Cond.instanceMethod yX7_thunder ∈ kT := mt_5 (List.mem_of_getElem? (i := 9) rfl) rfl
theorem ws_X7_thunder : Cond.selects RX7 yX7_thunder yX7_thunder ∈ kT := mt_5 (List.mem_of_getElem? (i := 10) rfl) rfl
theorem wc_X7_thunder : Cond.code yX7_thunder cX7_thunder 2 (some .int) ∈ kT := mt_5 (List.mem_of_getElem? (i := 11) rfl) rfl
theorem lK_X7_157 : Cond.constantLong RX7 157 (11) ∈ kT := mt_5 (List.mem_of_getElem? (i := 12) rfl) rfl
theorem lm_L_60 : Cond.methodLink RL 60 yX7_tune ∈ kT := mt_5 (List.mem_of_getElem? (i := 13) rfl) rfl
theorem wi_X7_tune : Cond.instanceMethod yX7_tune ∈ kT := mt_5 (List.mem_of_getElem? (i := 14) rfl) rfl
theorem ws_X7_tune : Cond.selects RX7 yX7_tune yX7_tune ∈ kT := mt_5 (List.mem_of_getElem? (i := 15) rfl) rfl
theorem wc_X7_tune : Cond.code yX7_tune cX7_tune 2 (some .int) ∈ kT := mt_5 (List.mem_of_getElem? (i := 16) rfl) rfl
theorem lm_L_64 : Cond.methodLink RL 64 yX7_learn ∈ kT := mt_5 (List.mem_of_getElem? (i := 17) rfl) rfl
theorem wi_X7_learn : Cond.instanceMethod yX7_learn ∈ kT := mt_5 (List.mem_of_getElem? (i := 18) rfl) rfl
theorem ws_X7_learn : Cond.selects RX7 yX7_learn yX7_learn ∈ kT := mt_5 (List.mem_of_getElem? (i := 19) rfl) rfl
theorem wc_X7_learn : Cond.code yX7_learn cX7_learn 3 (some .int) ∈ kT := mt_5 (List.mem_of_getElem? (i := 20) rfl) rfl
theorem lm_X7_159 : Cond.methodLink RX7 159 yX7_isPupil ∈ kT := mt_5 (List.mem_of_getElem? (i := 21) rfl) rfl
theorem wi_X7_isPupil : Cond.instanceMethod yX7_isPupil ∈ kT := mt_5 (List.mem_of_getElem? (i := 23) rfl) rfl
theorem wc_X7_isPupil : Cond.code yX7_isPupil cX7_isPupil 2 (some .boolean) ∈ kT := mt_5 (List.mem_of_getElem? (i := 24) rfl) rfl
theorem lm_L_69 : Cond.methodLink RL 69 yX7_piece ∈ kT := mt_5 (List.mem_of_getElem? (i := 25) rfl) rfl
theorem wi_X7_piece : Cond.instanceMethod yX7_piece ∈ kT := mt_5 (List.mem_of_getElem? (i := 26) rfl) rfl
theorem ws_X7_piece : Cond.selects RX7 yX7_piece yX7_piece ∈ kT := mt_5 (List.mem_of_getElem? (i := 27) rfl) rfl
theorem wc_X7_piece : Cond.code yX7_piece cX7_piece 4 (some .int) ∈ kT := mt_5 (List.mem_of_getElem? (i := 28) rfl) rfl
theorem lm_X7_162 : Cond.methodLink RX7 162 yX7_isPiece ∈ kT := mt_5 (List.mem_of_getElem? (i := 29) rfl) rfl
theorem wi_X7_isPiece : Cond.instanceMethod yX7_isPiece ∈ kT := mt_5 (List.mem_of_getElem? (i := 31) rfl) rfl
theorem wc_X7_isPiece : Cond.code yX7_isPiece cX7_isPiece 2 (some .boolean) ∈ kT := mt_5 (List.mem_of_getElem? (i := 32) rfl) rfl
theorem lk_X7_165 : Cond.constant RX7 165 (-1000000) ∈ kT := mt_5 (List.mem_of_getElem? (i := 33) rfl) rfl
theorem lm_L_73 : Cond.methodLink RL 73 yX7_pupil ∈ kT := mt_5 (List.mem_of_getElem? (i := 34) rfl) rfl
theorem wi_X7_pupil : Cond.instanceMethod yX7_pupil ∈ kT := mt_5 (List.mem_of_getElem? (i := 35) rfl) rfl
theorem ws_X7_pupil : Cond.selects RX7 yX7_pupil yX7_pupil ∈ kT := mt_5 (List.mem_of_getElem? (i := 36) rfl) rfl
theorem wc_X7_pupil : Cond.code yX7_pupil cX7_pupil 3 (some .int) ∈ kT := mt_5 (List.mem_of_getElem? (i := 37) rfl) rfl
theorem lm_X7_169 : Cond.methodLink RX7 169 yX7_biasOf ∈ kT := mt_5 (List.mem_of_getElem? (i := 38) rfl) rfl
theorem wi_X7_biasOf : Cond.instanceMethod yX7_biasOf ∈ kT := mt_5 (List.mem_of_getElem? (i := 40) rfl) rfl
theorem wc_X7_biasOf : Cond.code yX7_biasOf cX7_biasOf 2 (some .int) ∈ kT := mt_5 (List.mem_of_getElem? (i := 41) rfl) rfl
theorem lm_X7_166 : Cond.methodLink RX7 166 yX7_biasBy ∈ kT := mt_5 (List.mem_of_getElem? (i := 42) rfl) rfl
theorem wi_X7_biasBy : Cond.instanceMethod yX7_biasBy ∈ kT := mt_5 (List.mem_of_getElem? (i := 44) rfl) rfl
theorem wc_X7_biasBy : Cond.code yX7_biasBy cX7_biasBy 4 (some .int) ∈ kT := mt_5 (List.mem_of_getElem? (i := 45) rfl) rfl
theorem lm_L_77 : Cond.methodLink RL 77 yX7_plays ∈ kT := mt_5 (List.mem_of_getElem? (i := 46) rfl) rfl
theorem wi_X7_plays : Cond.instanceMethod yX7_plays ∈ kT := mt_5 (List.mem_of_getElem? (i := 47) rfl) rfl
theorem ws_X7_plays : Cond.selects RX7 yX7_plays yX7_plays ∈ kT := mt_5 (List.mem_of_getElem? (i := 48) rfl) rfl
theorem wc_X7_plays : Cond.code yX7_plays cX7_plays 5 (some .int) ∈ kT := mt_5 (List.mem_of_getElem? (i := 49) rfl) rfl
theorem lm_X7_178 : Cond.methodLink RX7 178 yX7_reaches ∈ kT := mt_5 (List.mem_of_getElem? (i := 50) rfl) rfl
theorem wi_X7_reaches : Cond.instanceMethod yX7_reaches ∈ kT := mt_5 (List.mem_of_getElem? (i := 52) rfl) rfl
theorem wc_X7_reaches : Cond.code yX7_reaches cX7_reaches 5 (some .boolean) ∈ kT := mt_5 (List.mem_of_getElem? (i := 53) rfl) rfl
theorem lm_L_81 : Cond.methodLink RL 81 yX7_heard ∈ kT := mt_5 (List.mem_of_getElem? (i := 54) rfl) rfl
theorem wi_X7_heard : Cond.instanceMethod yX7_heard ∈ kT := mt_5 (List.mem_of_getElem? (i := 55) rfl) rfl
theorem ws_X7_heard : Cond.selects RX7 yX7_heard yX7_heard ∈ kT := mt_5 (List.mem_of_getElem? (i := 56) rfl) rfl
theorem wc_X7_heard : Cond.code yX7_heard cX7_heard 4 (some .int) ∈ kT := mt_5 (List.mem_of_getElem? (i := 57) rfl) rfl
theorem lm_X7_182 : Cond.methodLink RX7 182 yX7_heardBy ∈ kT := mt_5 (List.mem_of_getElem? (i := 58) rfl) rfl
theorem wi_X7_heardBy : Cond.instanceMethod yX7_heardBy ∈ kT := mt_5 (List.mem_of_getElem? (i := 60) rfl) rfl
theorem wc_X7_heardBy : Cond.code yX7_heardBy cX7_heardBy 4 (some .int) ∈ kT := mt_5 (List.mem_of_getElem? (i := 61) rfl) rfl
theorem lm_L_85 : Cond.methodLink RL 85 yX7_strike ∈ kT := mt_5 (List.mem_of_getElem? (i := 62) rfl) rfl
theorem wi_X7_strike : Cond.instanceMethod yX7_strike ∈ kT := mt_5 (List.mem_of_getElem? (i := 63) rfl) rfl
theorem ws_X7_strike : Cond.selects RX7 yX7_strike yX7_strike ∈ kT := mt_5 (List.mem_of_getElem? (i := 64) rfl) rfl
theorem wc_X7_strike : Cond.code yX7_strike cX7_strike 2 (some .int) ∈ kT := mt_5 (List.mem_of_getElem? (i := 65) rfl) rfl
theorem lm_L_89 : Cond.methodLink RL 89 yX7_soon ∈ kT := mt_5 (List.mem_of_getElem? (i := 66) rfl) rfl
theorem wi_X7_soon : Cond.instanceMethod yX7_soon ∈ kT := mt_5 (List.mem_of_getElem? (i := 67) rfl) rfl
theorem ws_X7_soon : Cond.selects RX7 yX7_soon yX7_soon ∈ kT := mt_5 (List.mem_of_getElem? (i := 68) rfl) rfl
theorem wc_X7_soon : Cond.code yX7_soon cX7_soon 2 (some .int) ∈ kT := mt_5 (List.mem_of_getElem? (i := 69) rfl) rfl
theorem lm_X7_186 : Cond.methodLink RX7 186 yX7_soonBy ∈ kT := mt_5 (List.mem_of_getElem? (i := 70) rfl) rfl
theorem wi_X7_soonBy : Cond.instanceMethod yX7_soonBy ∈ kT := mt_5 (List.mem_of_getElem? (i := 72) rfl) rfl
theorem wc_X7_soonBy : Cond.code yX7_soonBy cX7_soonBy 4 (some .int) ∈ kT := mt_5 (List.mem_of_getElem? (i := 73) rfl) rfl
theorem lm_L_93 : Cond.methodLink RL 93 yX7_together ∈ kT := mt_5 (List.mem_of_getElem? (i := 74) rfl) rfl
theorem wi_X7_together : Cond.instanceMethod yX7_together ∈ kT := mt_5 (List.mem_of_getElem? (i := 75) rfl) rfl
theorem ws_X7_together : Cond.selects RX7 yX7_together yX7_together ∈ kT := mt_5 (List.mem_of_getElem? (i := 76) rfl) rfl
theorem wc_X7_together : Cond.code yX7_together cX7_together 3 (some .int) ∈ kT := mt_5 (List.mem_of_getElem? (i := 77) rfl) rfl
theorem lm_L_97 : Cond.methodLink RL 97 yX7_itself ∈ kT := mt_5 (List.mem_of_getElem? (i := 78) rfl) rfl
theorem wi_X7_itself : Cond.instanceMethod yX7_itself ∈ kT := mt_5 (List.mem_of_getElem? (i := 79) rfl) rfl
theorem ws_X7_itself : Cond.selects RX7 yX7_itself yX7_itself ∈ kT := mt_5 (List.mem_of_getElem? (i := 80) rfl) rfl
theorem wc_X7_itself : Cond.code yX7_itself cX7_itself 1 (some .int) ∈ kT := mt_5 (List.mem_of_getElem? (i := 81) rfl) rfl
theorem lm_L_101 : Cond.methodLink RL 101 yX7_nightsOf ∈ kT := mt_5 (List.mem_of_getElem? (i := 82) rfl) rfl
theorem wi_X7_nightsOf : Cond.instanceMethod yX7_nightsOf ∈ kT := mt_5 (List.mem_of_getElem? (i := 83) rfl) rfl
theorem ws_X7_nightsOf : Cond.selects RX7 yX7_nightsOf yX7_nightsOf ∈ kT := mt_5 (List.mem_of_getElem? (i := 84) rfl) rfl
theorem wc_X7_nightsOf : Cond.code yX7_nightsOf cX7_nightsOf 5 (some .int) ∈ kT := mt_5 (List.mem_of_getElem? (i := 85) rfl) rfl
theorem lm_L_106 : Cond.methodLink RL 106 yX7_struck ∈ kT := mt_5 (List.mem_of_getElem? (i := 86) rfl) rfl
theorem wi_X7_struck : Cond.instanceMethod yX7_struck ∈ kT := mt_5 (List.mem_of_getElem? (i := 87) rfl) rfl
theorem ws_X7_struck : Cond.selects RX7 yX7_struck yX7_struck ∈ kT := mt_5 (List.mem_of_getElem? (i := 88) rfl) rfl
theorem wc_X7_struck : Cond.code yX7_struck cX7_struck 13 (some .int) ∈ kT := mt_5 (List.mem_of_getElem? (i := 89) rfl) rfl
theorem lK_X7_189 : Cond.constantLong RX7 189 (12) ∈ kT := mt_5 (List.mem_of_getElem? (i := 90) rfl) rfl
theorem lm_X7_191 : Cond.methodLink RX7 191 yX7_lacks ∈ kT := mt_5 (List.mem_of_getElem? (i := 91) rfl) rfl
theorem wi_X7_lacks : Cond.instanceMethod yX7_lacks ∈ kT := mt_5 (List.mem_of_getElem? (i := 93) rfl) rfl
theorem wc_X7_lacks : Cond.code yX7_lacks cX7_lacks 4 (some .int) ∈ kT := mt_5 (List.mem_of_getElem? (i := 94) rfl) rfl
theorem lm_L_110 : Cond.methodLink RL 110 yX7_lessons ∈ kT := mt_5 (List.mem_of_getElem? (i := 95) rfl) rfl
theorem wi_X7_lessons : Cond.instanceMethod yX7_lessons ∈ kT := mt_5 (List.mem_of_getElem? (i := 96) rfl) rfl
theorem ws_X7_lessons : Cond.selects RX7 yX7_lessons yX7_lessons ∈ kT := mt_5 (List.mem_of_getElem? (i := 97) rfl) rfl
theorem wc_X7_lessons : Cond.code yX7_lessons cX7_lessons 5 (some .int) ∈ kT := mt_5 (List.mem_of_getElem? (i := 98) rfl) rfl
theorem lK_X7_197 : Cond.constantLong RX7 197 (16777215) ∈ kT := mt_5 (List.mem_of_getElem? (i := 99) rfl) rfl
theorem lm_X7_199 : Cond.methodLink RX7 199 yX7_ones ∈ kT := mt_5 (List.mem_of_getElem? (i := 100) rfl) rfl
theorem wt_X7_ones : Cond.static yX7_ones ∈ kT := mt_5 (List.mem_of_getElem? (i := 101) rfl) rfl
theorem wc_X7_ones : Cond.code yX7_ones cX7_ones 3 (some .int) ∈ kT := mt_5 (List.mem_of_getElem? (i := 102) rfl) rfl
theorem lm_X7_202 : Cond.methodLink RX7 202 yX7_isLesson ∈ kT := mt_5 (List.mem_of_getElem? (i := 103) rfl) rfl
theorem wi_X7_isLesson : Cond.instanceMethod yX7_isLesson ∈ kT := mt_5 (List.mem_of_getElem? (i := 105) rfl) rfl
theorem wc_X7_isLesson : Cond.code yX7_isLesson cX7_isLesson 8 (some .boolean) ∈ kT := mt_5 (List.mem_of_getElem? (i := 106) rfl) rfl
theorem lm_X7_194 : Cond.methodLink RX7 194 yX7_has ∈ kT := mt_5 (List.mem_of_getElem? (i := 107) rfl) rfl
theorem wt_X7_has : Cond.static yX7_has ∈ kT := mt_5 (List.mem_of_getElem? (i := 108) rfl) rfl
theorem wc_X7_has : Cond.code yX7_has cX7_has 2 (some .boolean) ∈ kT := mt_5 (List.mem_of_getElem? (i := 109) rfl) rfl
theorem lm_L_114 : Cond.methodLink RL 114 yX7_programme ∈ kT := mt_5 (List.mem_of_getElem? (i := 110) rfl) rfl
theorem wi_X7_programme : Cond.instanceMethod yX7_programme ∈ kT := mt_5 (List.mem_of_getElem? (i := 111) rfl) rfl
theorem ws_X7_programme : Cond.selects RX7 yX7_programme yX7_programme ∈ kT := mt_5 (List.mem_of_getElem? (i := 112) rfl) rfl
theorem wc_X7_programme : Cond.code yX7_programme cX7_programme 12 (some .int) ∈ kT := mt_5 (List.mem_of_getElem? (i := 113) rfl) rfl
theorem lK_X7_205 : Cond.constantLong RX7 205 (6) ∈ kT := mt_5 (List.mem_of_getElem? (i := 114) rfl) rfl
theorem lK_X7_207 : Cond.constantLong RX7 207 (-1) ∈ kT := mt_5 (List.mem_of_getElem? (i := 115) rfl) rfl
theorem lK_X7_209 : Cond.constantLong RX7 209 (3) ∈ kT := mt_5 (List.mem_of_getElem? (i := 116) rfl) rfl
theorem lm_X7_211 : Cond.methodLink RX7 211 yX7_isNight ∈ kT := mt_5 (List.mem_of_getElem? (i := 117) rfl) rfl
theorem wi_X7_isNight : Cond.instanceMethod yX7_isNight ∈ kT := mt_5 (List.mem_of_getElem? (i := 119) rfl) rfl
theorem wc_X7_isNight : Cond.code yX7_isNight cX7_isNight 5 (some .boolean) ∈ kT := mt_5 (List.mem_of_getElem? (i := 120) rfl) rfl
theorem lm_L_118 : Cond.methodLink RL 118 yX7_chords ∈ kT := mt_5 (List.mem_of_getElem? (i := 121) rfl) rfl
theorem wi_X7_chords : Cond.instanceMethod yX7_chords ∈ kT := mt_5 (List.mem_of_getElem? (i := 122) rfl) rfl
theorem ws_X7_chords : Cond.selects RX7 yX7_chords yX7_chords ∈ kT := mt_5 (List.mem_of_getElem? (i := 123) rfl) rfl
theorem wc_X7_chords : Cond.code yX7_chords cX7_chords 6 (some .int) ∈ kT := mt_5 (List.mem_of_getElem? (i := 124) rfl) rfl
theorem lm_L_122 : Cond.methodLink RL 122 yX7_who ∈ kT := mt_5 (List.mem_of_getElem? (i := 125) rfl) rfl
theorem wi_X7_who : Cond.instanceMethod yX7_who ∈ kT := mt_5 (List.mem_of_getElem? (i := 126) rfl) rfl
theorem ws_X7_who : Cond.selects RX7 yX7_who yX7_who ∈ kT := mt_5 (List.mem_of_getElem? (i := 127) rfl) rfl
theorem wc_X7_who : Cond.code yX7_who cX7_who 11 (some .int) ∈ kT := mt_5 (List.mem_of_getElem? (i := 128) rfl) rfl
theorem lm_L_126 : Cond.methodLink RL 126 yX7_tunings ∈ kT := mt_5 (List.mem_of_getElem? (i := 129) rfl) rfl
theorem wi_X7_tunings : Cond.instanceMethod yX7_tunings ∈ kT := mt_5 (List.mem_of_getElem? (i := 130) rfl) rfl
theorem ws_X7_tunings : Cond.selects RX7 yX7_tunings yX7_tunings ∈ kT := mt_5 (List.mem_of_getElem? (i := 131) rfl) rfl
theorem wc_X7_tunings : Cond.code yX7_tunings cX7_tunings 6 (some .int) ∈ kT := mt_5 (List.mem_of_getElem? (i := 132) rfl) rfl
theorem lK_X7_214 : Cond.constantLong RX7 214 (60) ∈ kT := mt_5 (List.mem_of_getElem? (i := 133) rfl) rfl
theorem lm_L_130 : Cond.methodLink RL 130 yX7_other ∈ kT := mt_5 (List.mem_of_getElem? (i := 134) rfl) rfl
theorem wi_X7_other : Cond.instanceMethod yX7_other ∈ kT := mt_5 (List.mem_of_getElem? (i := 135) rfl) rfl
theorem ws_X7_other : Cond.selects RX7 yX7_other yX7_other ∈ kT := mt_5 (List.mem_of_getElem? (i := 136) rfl) rfl
theorem wc_X7_other : Cond.code yX7_other cX7_other 4 (some .int) ∈ kT := mt_5 (List.mem_of_getElem? (i := 137) rfl) rfl
theorem lm_L_135 : Cond.methodLink RL 135 yX7_thunderOdds ∈ kT := mt_5 (List.mem_of_getElem? (i := 138) rfl) rfl
theorem wi_X7_thunderOdds : Cond.instanceMethod yX7_thunderOdds ∈ kT := mt_5 (List.mem_of_getElem? (i := 139) rfl) rfl
theorem ws_X7_thunderOdds : Cond.selects RX7 yX7_thunderOdds yX7_thunderOdds ∈ kT := mt_5 (List.mem_of_getElem? (i := 140) rfl) rfl
theorem wc_X7_thunderOdds : Cond.code yX7_thunderOdds cX7_thunderOdds 15 (some .long) ∈ kT := mt_5 (List.mem_of_getElem? (i := 141) rfl) rfl
theorem lK_X7_216 : Cond.constantLong RX7 216 (10) ∈ kT := mt_5 (List.mem_of_getElem? (i := 142) rfl) rfl
theorem lK_X7_218 : Cond.constantLong RX7 218 (-1000001) ∈ kT := mt_5 (List.mem_of_getElem? (i := 143) rfl) rfl
theorem lm_L_139 : Cond.methodLink RL 139 yX7_drawn ∈ kT := mt_5 (List.mem_of_getElem? (i := 144) rfl) rfl
theorem wi_X7_drawn : Cond.instanceMethod yX7_drawn ∈ kT := mt_5 (List.mem_of_getElem? (i := 145) rfl) rfl
theorem ws_X7_drawn : Cond.selects RX7 yX7_drawn yX7_drawn ∈ kT := mt_5 (List.mem_of_getElem? (i := 146) rfl) rfl
theorem wc_X7_drawn : Cond.code yX7_drawn cX7_drawn 11 (some .int) ∈ kT := mt_5 (List.mem_of_getElem? (i := 147) rfl) rfl
theorem lK_X7_220 : Cond.constantLong RX7 220 (999999) ∈ kT := mt_5 (List.mem_of_getElem? (i := 148) rfl) rfl
theorem lK_X7_222 : Cond.constantLong RX7 222 (16807) ∈ kT := mt_5 (List.mem_of_getElem? (i := 149) rfl) rfl
theorem lK_X7_224 : Cond.constantLong RX7 224 (2147483647) ∈ kT := mt_5 (List.mem_of_getElem? (i := 150) rfl) rfl
theorem lK_X7_226 : Cond.constantLong RX7 226 (5) ∈ kT := mt_5 (List.mem_of_getElem? (i := 151) rfl) rfl
theorem lm_L_143 : Cond.methodLink RL 143 yX7_image ∈ kT := mt_5 (List.mem_of_getElem? (i := 152) rfl) rfl
theorem wi_X7_image : Cond.instanceMethod yX7_image ∈ kT := mt_5 (List.mem_of_getElem? (i := 153) rfl) rfl
theorem ws_X7_image : Cond.selects RX7 yX7_image yX7_image ∈ kT := mt_5 (List.mem_of_getElem? (i := 154) rfl) rfl
theorem wc_X7_image : Cond.code yX7_image cX7_image 3 (some .int) ∈ kT := mt_5 (List.mem_of_getElem? (i := 155) rfl) rfl
theorem lm_L_147 : Cond.methodLink RL 147 yX7_restore ∈ kT := mt_5 (List.mem_of_getElem? (i := 156) rfl) rfl
theorem wi_X7_restore : Cond.instanceMethod yX7_restore ∈ kT := mt_5 (List.mem_of_getElem? (i := 157) rfl) rfl
theorem ws_X7_restore : Cond.selects RX7 yX7_restore yX7_restore ∈ kT := mt_5 (List.mem_of_getElem? (i := 158) rfl) rfl
theorem wc_X7_restore : Cond.code yX7_restore cX7_restore 3 (some .int) ∈ kT := mt_5 (List.mem_of_getElem? (i := 159) rfl) rfl
theorem lm_L_151 : Cond.methodLink RL 151 yX7_kind ∈ kT := mt_5 (List.mem_of_getElem? (i := 160) rfl) rfl
theorem wi_X7_kind : Cond.instanceMethod yX7_kind ∈ kT := mt_5 (List.mem_of_getElem? (i := 161) rfl) rfl
theorem ws_X7_kind : Cond.selects RX7 yX7_kind yX7_kind ∈ kT := mt_5 (List.mem_of_getElem? (i := 162) rfl) rfl
theorem wc_X7_kind : Cond.code yX7_kind cX7_kind 2 (some .int) ∈ kT := mt_5 (List.mem_of_getElem? (i := 163) rfl) rfl
theorem lm_L_155 : Cond.methodLink RL 155 yX7_as ∈ kT := mt_5 (List.mem_of_getElem? (i := 164) rfl) rfl
theorem wi_X7_as : Cond.instanceMethod yX7_as ∈ kT := mt_5 (List.mem_of_getElem? (i := 165) rfl) rfl
theorem ws_X7_as : Cond.selects RX7 yX7_as yX7_as ∈ kT := mt_5 (List.mem_of_getElem? (i := 166) rfl) rfl
theorem wc_X7_as : Cond.code yX7_as cX7_as 3 (some .int) ∈ kT := mt_5 (List.mem_of_getElem? (i := 167) rfl) rfl
theorem lm_X7_228 : Cond.methodLink RX7 228 yX7_isKind ∈ kT := mt_5 (List.mem_of_getElem? (i := 168) rfl) rfl
theorem wt_X7_isKind : Cond.static yX7_isKind ∈ kT := mt_5 (List.mem_of_getElem? (i := 169) rfl) rfl
theorem wc_X7_isKind : Cond.code yX7_isKind cX7_isKind 2 (some .boolean) ∈ kT := mt_5 (List.mem_of_getElem? (i := 170) rfl) rfl
theorem lm_L_159 : Cond.methodLink RL 159 yX7_ask ∈ kT := mt_5 (List.mem_of_getElem? (i := 171) rfl) rfl
theorem wi_X7_ask : Cond.instanceMethod yX7_ask ∈ kT := mt_5 (List.mem_of_getElem? (i := 172) rfl) rfl
theorem ws_X7_ask : Cond.selects RX7 yX7_ask yX7_ask ∈ kT := mt_5 (List.mem_of_getElem? (i := 173) rfl) rfl
theorem wc_X7_ask : Cond.code yX7_ask cX7_ask 3 (some .int) ∈ kT := mt_5 (List.mem_of_getElem? (i := 174) rfl) rfl
theorem lm_X7_256 : Cond.methodLink RX7 256 yX7_sizeOf ∈ kT := mt_5 (List.mem_of_getElem? (i := 175) rfl) rfl
theorem wi_X7_sizeOf : Cond.instanceMethod yX7_sizeOf ∈ kT := mt_5 (List.mem_of_getElem? (i := 177) rfl) rfl
theorem wc_X7_sizeOf : Cond.code yX7_sizeOf cX7_sizeOf 3 (some .int) ∈ kT := mt_5 (List.mem_of_getElem? (i := 178) rfl) rfl
theorem lm_X7_234 : Cond.methodLink RX7 234 yX7_begin ∈ kT := mt_5 (List.mem_of_getElem? (i := 179) rfl) rfl
theorem wi_X7_begin : Cond.instanceMethod yX7_begin ∈ kT := mt_5 (List.mem_of_getElem? (i := 181) rfl) rfl
theorem wc_X7_begin : Cond.code yX7_begin cX7_begin 2 none ∈ kT := mt_5 (List.mem_of_getElem? (i := 182) rfl) rfl
theorem lm_X7_253 : Cond.methodLink RX7 253 yX7_playerSize ∈ kT := mt_5 (List.mem_of_getElem? (i := 183) rfl) rfl
theorem wi_X7_playerSize : Cond.instanceMethod yX7_playerSize ∈ kT := mt_5 (List.mem_of_getElem? (i := 185) rfl) rfl
theorem wc_X7_playerSize : Cond.code yX7_playerSize cX7_playerSize 3 (some .int) ∈ kT := mt_5 (List.mem_of_getElem? (i := 186) rfl) rfl
theorem lm_X7_238 : Cond.methodLink RX7 238 yX7_lent ∈ kT := mt_5 (List.mem_of_getElem? (i := 187) rfl) rfl
theorem wi_X7_lent : Cond.instanceMethod yX7_lent ∈ kT := mt_5 (List.mem_of_getElem? (i := 189) rfl) rfl
theorem wc_X7_lent : Cond.code yX7_lent cX7_lent 3 (some .int) ∈ kT := mt_5 (List.mem_of_getElem? (i := 190) rfl) rfl
theorem lm_X7_250 : Cond.methodLink RX7 250 yX7_markOf ∈ kT := mt_5 (List.mem_of_getElem? (i := 191) rfl) rfl
theorem wi_X7_markOf : Cond.instanceMethod yX7_markOf ∈ kT := mt_5 (List.mem_of_getElem? (i := 193) rfl) rfl
theorem wc_X7_markOf : Cond.code yX7_markOf cX7_markOf 4 (some .int) ∈ kT := mt_5 (List.mem_of_getElem? (i := 194) rfl) rfl
theorem lm_X7_244 : Cond.methodLink RX7 244 yX7_playerMark ∈ kT := mt_5 (List.mem_of_getElem? (i := 195) rfl) rfl
theorem wi_X7_playerMark : Cond.instanceMethod yX7_playerMark ∈ kT := mt_5 (List.mem_of_getElem? (i := 197) rfl) rfl
theorem wc_X7_playerMark : Cond.code yX7_playerMark cX7_playerMark 2 (some .int) ∈ kT := mt_5 (List.mem_of_getElem? (i := 198) rfl) rfl
theorem lm_X7_247 : Cond.methodLink RX7 247 yX7_sizeOfCarrier ∈ kT := mt_5 (List.mem_of_getElem? (i := 199) rfl) rfl
theorem wi_X7_sizeOfCarrier : Cond.instanceMethod yX7_sizeOfCarrier ∈ kT := mt_5 (List.mem_of_getElem? (i := 201) rfl) rfl
theorem wc_X7_sizeOfCarrier : Cond.code yX7_sizeOfCarrier cX7_sizeOfCarrier 2 (some .int) ∈ kT := mt_5 (List.mem_of_getElem? (i := 202) rfl) rfl
theorem lm_X7_241 : Cond.methodLink RX7 241 yX7_carrierSize ∈ kT := mt_5 (List.mem_of_getElem? (i := 203) rfl) rfl
theorem wi_X7_carrierSize : Cond.instanceMethod yX7_carrierSize ∈ kT := mt_5 (List.mem_of_getElem? (i := 205) rfl) rfl
theorem wc_X7_carrierSize : Cond.code yX7_carrierSize cX7_carrierSize 2 (some .int) ∈ kT := mt_5 (List.mem_of_getElem? (i := 206) rfl) rfl
theorem lm_L_163 : Cond.methodLink RL 163 yX7_trace ∈ kT := mt_5 (List.mem_of_getElem? (i := 207) rfl) rfl
theorem wi_X7_trace : Cond.instanceMethod yX7_trace ∈ kT := mt_5 (List.mem_of_getElem? (i := 208) rfl) rfl
theorem ws_X7_trace : Cond.selects RX7 yX7_trace yX7_trace ∈ kT := mt_5 (List.mem_of_getElem? (i := 209) rfl) rfl
theorem wc_X7_trace : Cond.code yX7_trace cX7_trace 2 (some .int) ∈ kT := mt_5 (List.mem_of_getElem? (i := 210) rfl) rfl
theorem lm_L_167 : Cond.methodLink RL 167 yX7_count ∈ kT := mt_5 (List.mem_of_getElem? (i := 211) rfl) rfl
theorem wi_X7_count : Cond.instanceMethod yX7_count ∈ kT := mt_5 (List.mem_of_getElem? (i := 212) rfl) rfl
theorem ws_X7_count : Cond.selects RX7 yX7_count yX7_count ∈ kT := mt_5 (List.mem_of_getElem? (i := 213) rfl) rfl
theorem wc_X7_count : Cond.code yX7_count cX7_count 4 (some .int) ∈ kT := mt_5 (List.mem_of_getElem? (i := 214) rfl) rfl
theorem lm_L_171 : Cond.methodLink RL 171 yX7_status ∈ kT := mt_5 (List.mem_of_getElem? (i := 215) rfl) rfl
theorem wi_X7_status : Cond.instanceMethod yX7_status ∈ kT := mt_5 (List.mem_of_getElem? (i := 216) rfl) rfl
theorem ws_X7_status : Cond.selects RX7 yX7_status yX7_status ∈ kT := mt_5 (List.mem_of_getElem? (i := 217) rfl) rfl
theorem wc_X7_status : Cond.code yX7_status cX7_status 1 (some .int) ∈ kT := mt_5 (List.mem_of_getElem? (i := 218) rfl) rfl
theorem ws_X6_found : Cond.selects RX6 yX6_found yX6_found ∈ kT := kT_of (List.mem_append_left _ (List.mem_map.mpr ⟨(yX6_found, 9), List.mem_append_left _ (List.mem_of_getElem? (i := 0) rfl), rfl⟩)) rfl
theorem ws_X6_fine : Cond.selects RX6 yX6_fine yX6_fine ∈ kT := kT_of (List.mem_append_left _ (List.mem_map.mpr ⟨(yX6_fine, 9), List.mem_append_left _ (List.mem_of_getElem? (i := 1) rfl), rfl⟩)) rfl
theorem ws_X4_lowestBits : Cond.selects RX4 yX4_lowestBits yX4_lowestBits ∈ kT := kT_of (List.mem_append_left _ (List.mem_map.mpr ⟨(yX4_lowestBits, 3), List.mem_append_left _ (List.mem_of_getElem? (i := 2) rfl), rfl⟩)) rfl
theorem ws_X5_readLaw : Cond.selects RX5 yX5_readLaw yX5_readLaw ∈ kT := kT_of (List.mem_append_left _ (List.mem_map.mpr ⟨(yX5_readLaw, 6), List.mem_append_left _ (List.mem_of_getElem? (i := 3) rfl), rfl⟩)) rfl
theorem ws_X5_takeByte : Cond.selects RX5 yX5_takeByte yX5_takeByte ∈ kT := kT_of (List.mem_append_left _ (List.mem_map.mpr ⟨(yX5_takeByte, 6), List.mem_append_left _ (List.mem_of_getElem? (i := 4) rfl), rfl⟩)) rfl
theorem ws_X5_sees : Cond.selects RX5 yX5_sees yX5_sees ∈ kT := kT_of (List.mem_append_left _ (List.mem_map.mpr ⟨(yX5_sees, 6), List.mem_append_left _ (List.mem_of_getElem? (i := 5) rfl), rfl⟩)) rfl
theorem ws_X5_byteHere : Cond.selects RX5 yX5_byteHere yX5_byteHere ∈ kT := kT_of (List.mem_append_left _ (List.mem_map.mpr ⟨(yX5_byteHere, 6), List.mem_append_left _ (List.mem_of_getElem? (i := 6) rfl), rfl⟩)) rfl
theorem ws_X5_byteAt : Cond.selects RX5 yX5_byteAt yX5_byteAt ∈ kT := kT_of (List.mem_append_left _ (List.mem_map.mpr ⟨(yX5_byteAt, 6), List.mem_append_left _ (List.mem_of_getElem? (i := 7) rfl), rfl⟩)) rfl
theorem ws_X5_refuse : Cond.selects RX5 yX5_refuse yX5_refuse ∈ kT := kT_of (List.mem_append_left _ (List.mem_map.mpr ⟨(yX5_refuse, 6), List.mem_append_left _ (List.mem_of_getElem? (i := 8) rfl), rfl⟩)) rfl
theorem ws_X5_takeNumber : Cond.selects RX5 yX5_takeNumber yX5_takeNumber ∈ kT := kT_of (List.mem_append_left _ (List.mem_map.mpr ⟨(yX5_takeNumber, 6), List.mem_append_left _ (List.mem_of_getElem? (i := 9) rfl), rfl⟩)) rfl
theorem ws_X5_figuresHere : Cond.selects RX5 yX5_figuresHere yX5_figuresHere ∈ kT := kT_of (List.mem_append_left _ (List.mem_map.mpr ⟨(yX5_figuresHere, 6), List.mem_append_left _ (List.mem_of_getElem? (i := 10) rfl), rfl⟩)) rfl
theorem ws_X5_readPieces : Cond.selects RX5 yX5_readPieces yX5_readPieces ∈ kT := kT_of (List.mem_append_left _ (List.mem_map.mpr ⟨(yX5_readPieces, 6), List.mem_append_left _ (List.mem_of_getElem? (i := 11) rfl), rfl⟩)) rfl
theorem ws_X5_readStrings : Cond.selects RX5 yX5_readStrings yX5_readStrings ∈ kT := kT_of (List.mem_append_left _ (List.mem_map.mpr ⟨(yX5_readStrings, 6), List.mem_append_left _ (List.mem_of_getElem? (i := 12) rfl), rfl⟩)) rfl
theorem ws_X5_seesString : Cond.selects RX5 yX5_seesString yX5_seesString ∈ kT := kT_of (List.mem_append_left _ (List.mem_map.mpr ⟨(yX5_seesString, 6), List.mem_append_left _ (List.mem_of_getElem? (i := 13) rfl), rfl⟩)) rfl
theorem ws_X5_readPupils : Cond.selects RX5 yX5_readPupils yX5_readPupils ∈ kT := kT_of (List.mem_append_left _ (List.mem_map.mpr ⟨(yX5_readPupils, 6), List.mem_append_left _ (List.mem_of_getElem? (i := 14) rfl), rfl⟩)) rfl
theorem ws_X5_seesSort : Cond.selects RX5 yX5_seesSort yX5_seesSort ∈ kT := kT_of (List.mem_append_left _ (List.mem_map.mpr ⟨(yX5_seesSort, 6), List.mem_append_left _ (List.mem_of_getElem? (i := 15) rfl), rfl⟩)) rfl
theorem ws_X2_wrongsBy : Cond.selects RX2 yX2_wrongsBy yX2_wrongsBy ∈ kT := kT_of (List.mem_append_left _ (List.mem_map.mpr ⟨(yX2_wrongsBy, 4), List.mem_append_right _ (List.mem_append_left _ (List.mem_of_getElem? (i := 0) rfl)), rfl⟩)) rfl
theorem ws_X2_nightsIfTaught : Cond.selects RX2 yX2_nightsIfTaught yX2_nightsIfTaught ∈ kT := kT_of (List.mem_append_left _ (List.mem_map.mpr ⟨(yX2_nightsIfTaught, 4), List.mem_append_right _ (List.mem_append_left _ (List.mem_of_getElem? (i := 1) rfl)), rfl⟩)) rfl
theorem ws_X2_findPieceNights : Cond.selects RX2 yX2_findPieceNights yX2_findPieceNights ∈ kT := kT_of (List.mem_append_left _ (List.mem_map.mpr ⟨(yX2_findPieceNights, 4), List.mem_append_right _ (List.mem_append_left _ (List.mem_of_getElem? (i := 2) rfl)), rfl⟩)) rfl
theorem ws_X2_waysFrom : Cond.selects RX2 yX2_waysFrom yX2_waysFrom ∈ kT := kT_of (List.mem_append_left _ (List.mem_map.mpr ⟨(yX2_waysFrom, 4), List.mem_append_right _ (List.mem_append_left _ (List.mem_of_getElem? (i := 3) rfl)), rfl⟩)) rfl
theorem ws_X2_firstNightFor : Cond.selects RX2 yX2_firstNightFor yX2_firstNightFor ∈ kT := kT_of (List.mem_append_left _ (List.mem_map.mpr ⟨(yX2_firstNightFor, 4), List.mem_append_right _ (List.mem_append_left _ (List.mem_of_getElem? (i := 4) rfl)), rfl⟩)) rfl
theorem ws_X2_ownStrings : Cond.selects RX2 yX2_ownStrings yX2_ownStrings ∈ kT := kT_of (List.mem_append_left _ (List.mem_map.mpr ⟨(yX2_ownStrings, 4), List.mem_append_right _ (List.mem_append_left _ (List.mem_of_getElem? (i := 5) rfl)), rfl⟩)) rfl
theorem ws_X2_soundsAs : Cond.selects RX2 yX2_soundsAs yX2_soundsAs ∈ kT := kT_of (List.mem_append_left _ (List.mem_map.mpr ⟨(yX2_soundsAs, 4), List.mem_append_right _ (List.mem_append_left _ (List.mem_of_getElem? (i := 6) rfl)), rfl⟩)) rfl
theorem ws_X2_biasesOfAll : Cond.selects RX2 yX2_biasesOfAll yX2_biasesOfAll ∈ kT := kT_of (List.mem_append_left _ (List.mem_map.mpr ⟨(yX2_biasesOfAll, 4), List.mem_append_right _ (List.mem_append_left _ (List.mem_of_getElem? (i := 7) rfl)), rfl⟩)) rfl
theorem ws_X1_leave : Cond.selects RX1 yX1_leave yX1_leave ∈ kT := kT_of (List.mem_append_left _ (List.mem_map.mpr ⟨(yX1_leave, 6), List.mem_append_right _ (List.mem_append_left _ (List.mem_of_getElem? (i := 8) rfl)), rfl⟩)) rfl
theorem ws_X1_body11 : Cond.selects RX1 yX1_body11 yX1_body11 ∈ kT := kT_of (List.mem_append_left _ (List.mem_map.mpr ⟨(yX1_body11, 6), List.mem_append_right _ (List.mem_append_left _ (List.mem_of_getElem? (i := 9) rfl)), rfl⟩)) rfl
theorem ws_X1_body10 : Cond.selects RX1 yX1_body10 yX1_body10 ∈ kT := kT_of (List.mem_append_left _ (List.mem_map.mpr ⟨(yX1_body10, 6), List.mem_append_right _ (List.mem_append_left _ (List.mem_of_getElem? (i := 10) rfl)), rfl⟩)) rfl
theorem ws_X1_markOfPlayer : Cond.selects RX1 yX1_markOfPlayer yX1_markOfPlayer ∈ kT := kT_of (List.mem_append_left _ (List.mem_map.mpr ⟨(yX1_markOfPlayer, 6), List.mem_append_right _ (List.mem_append_left _ (List.mem_of_getElem? (i := 11) rfl)), rfl⟩)) rfl
theorem ws_X1_body21 : Cond.selects RX1 yX1_body21 yX1_body21 ∈ kT := kT_of (List.mem_append_left _ (List.mem_map.mpr ⟨(yX1_body21, 6), List.mem_append_right _ (List.mem_append_left _ (List.mem_of_getElem? (i := 12) rfl)), rfl⟩)) rfl
theorem ws_X1_body20 : Cond.selects RX1 yX1_body20 yX1_body20 ∈ kT := kT_of (List.mem_append_left _ (List.mem_map.mpr ⟨(yX1_body20, 6), List.mem_append_right _ (List.mem_append_left _ (List.mem_of_getElem? (i := 13) rfl)), rfl⟩)) rfl
theorem ws_X1_sizeOfCarrier : Cond.selects RX1 yX1_sizeOfCarrier yX1_sizeOfCarrier ∈ kT := kT_of (List.mem_append_left _ (List.mem_map.mpr ⟨(yX1_sizeOfCarrier, 6), List.mem_append_right _ (List.mem_append_left _ (List.mem_of_getElem? (i := 14) rfl)), rfl⟩)) rfl
theorem ws_X1_body13 : Cond.selects RX1 yX1_body13 yX1_body13 ∈ kT := kT_of (List.mem_append_left _ (List.mem_map.mpr ⟨(yX1_body13, 6), List.mem_append_right _ (List.mem_append_left _ (List.mem_of_getElem? (i := 15) rfl)), rfl⟩)) rfl
theorem ws_X1_body23 : Cond.selects RX1 yX1_body23 yX1_body23 ∈ kT := kT_of (List.mem_append_left _ (List.mem_map.mpr ⟨(yX1_body23, 6), List.mem_append_right _ (List.mem_append_right _ (List.mem_append_left _ (List.mem_of_getElem? (i := 0) rfl))), rfl⟩)) rfl
theorem ws_X6_rowsThere : Cond.selects RX6 yX6_rowsThere yX6_rowsThere ∈ kT := kT_of (List.mem_append_left _ (List.mem_map.mpr ⟨(yX6_rowsThere, 9), List.mem_append_right _ (List.mem_append_right _ (List.mem_append_left _ (List.mem_of_getElem? (i := 1) rfl))), rfl⟩)) rfl
theorem ws_X7_find : Cond.selects RX7 yX7_find yX7_find ∈ kT := kT_of (List.mem_append_left _ (List.mem_map.mpr ⟨(yX7_find, 26), List.mem_append_right _ (List.mem_append_right _ (List.mem_append_left _ (List.mem_of_getElem? (i := 2) rfl))), rfl⟩)) rfl
theorem ws_X7_well : Cond.selects RX7 yX7_well yX7_well ∈ kT := kT_of (List.mem_append_left _ (List.mem_map.mpr ⟨(yX7_well, 26), List.mem_append_right _ (List.mem_append_right _ (List.mem_append_left _ (List.mem_of_getElem? (i := 3) rfl))), rfl⟩)) rfl
theorem ws_X7_readHall : Cond.selects RX7 yX7_readHall yX7_readHall ∈ kT := kT_of (List.mem_append_left _ (List.mem_map.mpr ⟨(yX7_readHall, 26), List.mem_append_right _ (List.mem_append_right _ (List.mem_append_left _ (List.mem_of_getElem? (i := 4) rfl))), rfl⟩)) rfl
theorem ws_X7_nextToken : Cond.selects RX7 yX7_nextToken yX7_nextToken ∈ kT := kT_of (List.mem_append_left _ (List.mem_map.mpr ⟨(yX7_nextToken, 26), List.mem_append_right _ (List.mem_append_right _ (List.mem_append_left _ (List.mem_of_getElem? (i := 5) rfl))), rfl⟩)) rfl
theorem ws_X7_takes : Cond.selects RX7 yX7_takes yX7_takes ∈ kT := kT_of (List.mem_append_left _ (List.mem_map.mpr ⟨(yX7_takes, 26), List.mem_append_right _ (List.mem_append_right _ (List.mem_append_left _ (List.mem_of_getElem? (i := 6) rfl))), rfl⟩)) rfl
theorem ws_X7_isLetter : Cond.selects RX7 yX7_isLetter yX7_isLetter ∈ kT := kT_of (List.mem_append_left _ (List.mem_map.mpr ⟨(yX7_isLetter, 26), List.mem_append_right _ (List.mem_append_right _ (List.mem_append_left _ (List.mem_of_getElem? (i := 7) rfl))), rfl⟩)) rfl
theorem ws_X7_faults : Cond.selects RX7 yX7_faults yX7_faults ∈ kT := kT_of (List.mem_append_left _ (List.mem_map.mpr ⟨(yX7_faults, 26), List.mem_append_right _ (List.mem_append_right _ (List.mem_append_left _ (List.mem_of_getElem? (i := 8) rfl))), rfl⟩)) rfl
theorem ws_X7_takesNumber : Cond.selects RX7 yX7_takesNumber yX7_takesNumber ∈ kT := kT_of (List.mem_append_left _ (List.mem_map.mpr ⟨(yX7_takesNumber, 26), List.mem_append_right _ (List.mem_append_right _ (List.mem_append_left _ (List.mem_of_getElem? (i := 9) rfl))), rfl⟩)) rfl
theorem ws_X7_readPupil : Cond.selects RX7 yX7_readPupil yX7_readPupil ∈ kT := kT_of (List.mem_append_left _ (List.mem_map.mpr ⟨(yX7_readPupil, 26), List.mem_append_right _ (List.mem_append_right _ (List.mem_append_left _ (List.mem_of_getElem? (i := 10) rfl))), rfl⟩)) rfl
theorem ws_X7_readPiece : Cond.selects RX7 yX7_readPiece yX7_readPiece ∈ kT := kT_of (List.mem_append_left _ (List.mem_map.mpr ⟨(yX7_readPiece, 26), List.mem_append_right _ (List.mem_append_right _ (List.mem_append_left _ (List.mem_of_getElem? (i := 11) rfl))), rfl⟩)) rfl
theorem ws_X7_note : Cond.selects RX7 yX7_note yX7_note ∈ kT := kT_of (List.mem_append_left _ (List.mem_map.mpr ⟨(yX7_note, 26), List.mem_append_right _ (List.mem_append_right _ (List.mem_append_left _ (List.mem_of_getElem? (i := 12) rfl))), rfl⟩)) rfl
theorem ws_X7_shiftIn : Cond.selects RX7 yX7_shiftIn yX7_shiftIn ∈ kT := kT_of (List.mem_append_left _ (List.mem_map.mpr ⟨(yX7_shiftIn, 26), List.mem_append_right _ (List.mem_append_right _ (List.mem_append_left _ (List.mem_of_getElem? (i := 13) rfl))), rfl⟩)) rfl
theorem ws_X7_over : Cond.selects RX7 yX7_over yX7_over ∈ kT := kT_of (List.mem_append_left _ (List.mem_map.mpr ⟨(yX7_over, 26), List.mem_append_right _ (List.mem_append_right _ (List.mem_append_left _ (List.mem_of_getElem? (i := 14) rfl))), rfl⟩)) rfl
theorem ws_X7_isPupil : Cond.selects RX7 yX7_isPupil yX7_isPupil ∈ kT := kT_of (List.mem_append_left _ (List.mem_map.mpr ⟨(yX7_isPupil, 26), List.mem_append_right _ (List.mem_append_right _ (List.mem_append_left _ (List.mem_of_getElem? (i := 15) rfl))), rfl⟩)) rfl
theorem ws_X7_isPiece : Cond.selects RX7 yX7_isPiece yX7_isPiece ∈ kT := kT_of (List.mem_append_left _ (List.mem_map.mpr ⟨(yX7_isPiece, 26), List.mem_append_right _ (List.mem_append_right _ (List.mem_append_right _ (List.mem_append_left _ (List.mem_of_getElem? (i := 0) rfl)))), rfl⟩)) rfl
theorem ws_X7_biasOf : Cond.selects RX7 yX7_biasOf yX7_biasOf ∈ kT := kT_of (List.mem_append_left _ (List.mem_map.mpr ⟨(yX7_biasOf, 26), List.mem_append_right _ (List.mem_append_right _ (List.mem_append_right _ (List.mem_append_left _ (List.mem_of_getElem? (i := 1) rfl)))), rfl⟩)) rfl
theorem ws_X7_biasBy : Cond.selects RX7 yX7_biasBy yX7_biasBy ∈ kT := kT_of (List.mem_append_left _ (List.mem_map.mpr ⟨(yX7_biasBy, 26), List.mem_append_right _ (List.mem_append_right _ (List.mem_append_right _ (List.mem_append_left _ (List.mem_of_getElem? (i := 2) rfl)))), rfl⟩)) rfl
theorem ws_X7_reaches : Cond.selects RX7 yX7_reaches yX7_reaches ∈ kT := kT_of (List.mem_append_left _ (List.mem_map.mpr ⟨(yX7_reaches, 26), List.mem_append_right _ (List.mem_append_right _ (List.mem_append_right _ (List.mem_append_left _ (List.mem_of_getElem? (i := 3) rfl)))), rfl⟩)) rfl
theorem ws_X7_heardBy : Cond.selects RX7 yX7_heardBy yX7_heardBy ∈ kT := kT_of (List.mem_append_left _ (List.mem_map.mpr ⟨(yX7_heardBy, 26), List.mem_append_right _ (List.mem_append_right _ (List.mem_append_right _ (List.mem_append_left _ (List.mem_of_getElem? (i := 4) rfl)))), rfl⟩)) rfl
theorem ws_X7_soonBy : Cond.selects RX7 yX7_soonBy yX7_soonBy ∈ kT := kT_of (List.mem_append_left _ (List.mem_map.mpr ⟨(yX7_soonBy, 26), List.mem_append_right _ (List.mem_append_right _ (List.mem_append_right _ (List.mem_append_left _ (List.mem_of_getElem? (i := 5) rfl)))), rfl⟩)) rfl
theorem ws_X7_lacks : Cond.selects RX7 yX7_lacks yX7_lacks ∈ kT := kT_of (List.mem_append_left _ (List.mem_map.mpr ⟨(yX7_lacks, 26), List.mem_append_right _ (List.mem_append_right _ (List.mem_append_right _ (List.mem_append_left _ (List.mem_of_getElem? (i := 6) rfl)))), rfl⟩)) rfl
theorem ws_X7_isLesson : Cond.selects RX7 yX7_isLesson yX7_isLesson ∈ kT := kT_of (List.mem_append_left _ (List.mem_map.mpr ⟨(yX7_isLesson, 26), List.mem_append_right _ (List.mem_append_right _ (List.mem_append_right _ (List.mem_append_left _ (List.mem_of_getElem? (i := 7) rfl)))), rfl⟩)) rfl
theorem ws_X7_isNight : Cond.selects RX7 yX7_isNight yX7_isNight ∈ kT := kT_of (List.mem_append_left _ (List.mem_map.mpr ⟨(yX7_isNight, 26), List.mem_append_right _ (List.mem_append_right _ (List.mem_append_right _ (List.mem_append_left _ (List.mem_of_getElem? (i := 8) rfl)))), rfl⟩)) rfl
theorem ws_X7_sizeOf : Cond.selects RX7 yX7_sizeOf yX7_sizeOf ∈ kT := kT_of (List.mem_append_left _ (List.mem_map.mpr ⟨(yX7_sizeOf, 26), List.mem_append_right _ (List.mem_append_right _ (List.mem_append_right _ (List.mem_append_left _ (List.mem_of_getElem? (i := 9) rfl)))), rfl⟩)) rfl
theorem ws_X7_begin : Cond.selects RX7 yX7_begin yX7_begin ∈ kT := kT_of (List.mem_append_left _ (List.mem_map.mpr ⟨(yX7_begin, 26), List.mem_append_right _ (List.mem_append_right _ (List.mem_append_right _ (List.mem_append_left _ (List.mem_of_getElem? (i := 10) rfl)))), rfl⟩)) rfl
theorem ws_X7_playerSize : Cond.selects RX7 yX7_playerSize yX7_playerSize ∈ kT := kT_of (List.mem_append_left _ (List.mem_map.mpr ⟨(yX7_playerSize, 26), List.mem_append_right _ (List.mem_append_right _ (List.mem_append_right _ (List.mem_append_left _ (List.mem_of_getElem? (i := 11) rfl)))), rfl⟩)) rfl
theorem ws_X7_lent : Cond.selects RX7 yX7_lent yX7_lent ∈ kT := kT_of (List.mem_append_left _ (List.mem_map.mpr ⟨(yX7_lent, 26), List.mem_append_right _ (List.mem_append_right _ (List.mem_append_right _ (List.mem_append_left _ (List.mem_of_getElem? (i := 12) rfl)))), rfl⟩)) rfl
theorem ws_X7_markOf : Cond.selects RX7 yX7_markOf yX7_markOf ∈ kT := kT_of (List.mem_append_left _ (List.mem_map.mpr ⟨(yX7_markOf, 26), List.mem_append_right _ (List.mem_append_right _ (List.mem_append_right _ (List.mem_append_left _ (List.mem_of_getElem? (i := 13) rfl)))), rfl⟩)) rfl
theorem ws_X7_playerMark : Cond.selects RX7 yX7_playerMark yX7_playerMark ∈ kT := kT_of (List.mem_append_left _ (List.mem_map.mpr ⟨(yX7_playerMark, 26), List.mem_append_right _ (List.mem_append_right _ (List.mem_append_right _ (List.mem_append_left _ (List.mem_of_getElem? (i := 14) rfl)))), rfl⟩)) rfl
theorem ws_X7_sizeOfCarrier : Cond.selects RX7 yX7_sizeOfCarrier yX7_sizeOfCarrier ∈ kT := kT_of (List.mem_append_left _ (List.mem_map.mpr ⟨(yX7_sizeOfCarrier, 26), List.mem_append_right _ (List.mem_append_right _ (List.mem_append_right _ (List.mem_append_left _ (List.mem_of_getElem? (i := 15) rfl)))), rfl⟩)) rfl
theorem ws_X7_carrierSize : Cond.selects RX7 yX7_carrierSize yX7_carrierSize ∈ kT := kT_of (List.mem_append_left _ (List.mem_map.mpr ⟨(yX7_carrierSize, 26), List.mem_append_right _ (List.mem_append_right _ (List.mem_append_right _ (List.mem_append_right _ (List.mem_of_getElem? (i := 0) rfl)))), rfl⟩)) rfl
theorem inX0_ : ∀ w ∈ ([Cond.laysFinal "KeyDrift$Acts" "KeyDrift$Acts" "sorts" "[I", Cond.laysFinal "KeyDrift$Acts" "KeyDrift$Acts" "pupils" "[I", Cond.laysFinal "KeyDrift$Acts" "KeyDrift$Acts" "before" "[I", Cond.lays "KeyDrift$Acts" "KeyDrift$Acts" "next" "I", Cond.lays "KeyDrift$Acts" "KeyDrift$Acts" "kept" "I"] : List Cond), w ∈ kT := List.forall_mem_cons.mpr ⟨mt_1 (List.mem_of_getElem? (i := 155) rfl) rfl, List.forall_mem_cons.mpr ⟨mt_1 (List.mem_of_getElem? (i := 157) rfl) rfl, List.forall_mem_cons.mpr ⟨mt_1 (List.mem_of_getElem? (i := 159) rfl) rfl, List.forall_mem_cons.mpr ⟨mt_1 (List.mem_of_getElem? (i := 161) rfl) rfl, List.forall_mem_cons.mpr ⟨mt_1 (List.mem_of_getElem? (i := 163) rfl) rfl, fun _ h => absurd h List.not_mem_nil⟩⟩⟩⟩⟩
theorem inX0 : ∀ w ∈ u_ws RX0 TX0 5, w ∈ kT := fun w h => inX0_ w h
theorem inX1_ : ∀ w ∈ ([Cond.laysFinal "KeyDrift$Asked" "KeyDrift$Asked" "bodies" "[I", Cond.lays "KeyDrift$Asked" "KeyDrift$Asked" "left" "I", Cond.lays "KeyDrift$Asked" "KeyDrift$Asked" "number" "I", Cond.lays "KeyDrift$Asked" "KeyDrift$Asked" "sort" "I", Cond.lays "KeyDrift$Asked" "KeyDrift$Asked" "learnt" "I", Cond.lays "KeyDrift$Asked" "KeyDrift$Asked" "span" "I"] : List Cond), w ∈ kT := List.forall_mem_cons.mpr ⟨mt_1 (List.mem_of_getElem? (i := 199) rfl) rfl, List.forall_mem_cons.mpr ⟨mt_1 (List.mem_of_getElem? (i := 201) rfl) rfl, List.forall_mem_cons.mpr ⟨mt_1 (List.mem_of_getElem? (i := 203) rfl) rfl, List.forall_mem_cons.mpr ⟨mt_1 (List.mem_of_getElem? (i := 205) rfl) rfl, List.forall_mem_cons.mpr ⟨mt_1 (List.mem_of_getElem? (i := 207) rfl) rfl, List.forall_mem_cons.mpr ⟨mt_1 (List.mem_of_getElem? (i := 209) rfl) rfl, fun _ h => absurd h List.not_mem_nil⟩⟩⟩⟩⟩⟩
theorem inX1 : ∀ w ∈ u_ws RX1 TX1 6, w ∈ kT := fun w h => inX1_ w h
theorem inX2_ : ∀ w ∈ ([Cond.laysFinal "KeyDrift$Foretold" "KeyDrift$Foretold" "hall" "LKeyDrift$Hall;", Cond.laysFinal "KeyDrift$Foretold" "KeyDrift$Foretold" "untaughtNights" "[I", Cond.laysFinal "KeyDrift$Foretold" "KeyDrift$Foretold" "taughtNights" "[I", Cond.laysFinal "KeyDrift$Foretold" "KeyDrift$Foretold" "pieceNights" "[I"] : List Cond), w ∈ kT := List.forall_mem_cons.mpr ⟨mt_1 (List.mem_of_getElem? (i := 176) rfl) rfl, List.forall_mem_cons.mpr ⟨mt_1 (List.mem_of_getElem? (i := 178) rfl) rfl, List.forall_mem_cons.mpr ⟨mt_1 (List.mem_of_getElem? (i := 180) rfl) rfl, List.forall_mem_cons.mpr ⟨mt_1 (List.mem_of_getElem? (i := 182) rfl) rfl, fun _ h => absurd h List.not_mem_nil⟩⟩⟩⟩
theorem inX2 : ∀ w ∈ u_ws RX2 TX2 4, w ∈ kT := fun w h => inX2_ w h
theorem inX3_ : ∀ w ∈ ([Cond.laysFinal "KeyDrift$Hall" "KeyDrift$Hall" "lengths" "[I", Cond.laysFinal "KeyDrift$Hall" "KeyDrift$Hall" "strings" "[I", Cond.laysFinal "KeyDrift$Hall" "KeyDrift$Hall" "kinds" "[I", Cond.laysFinal "KeyDrift$Hall" "KeyDrift$Hall" "learnt" "[I", Cond.laysFinal "KeyDrift$Hall" "KeyDrift$Hall" "spans" "[I", Cond.lays "KeyDrift$Hall" "KeyDrift$Hall" "keys" "I", Cond.lays "KeyDrift$Hall" "KeyDrift$Hall" "drift" "I", Cond.lays "KeyDrift$Hall" "KeyDrift$Hall" "shift" "I", Cond.lays "KeyDrift$Hall" "KeyDrift$Hall" "night" "I", Cond.lays "KeyDrift$Hall" "KeyDrift$Hall" "pieces" "I", Cond.lays "KeyDrift$Hall" "KeyDrift$Hall" "pupils" "I"] : List Cond), w ∈ kT := List.forall_mem_cons.mpr ⟨mt_1 (List.mem_of_getElem? (i := 92) rfl) rfl, List.forall_mem_cons.mpr ⟨mt_1 (List.mem_of_getElem? (i := 94) rfl) rfl, List.forall_mem_cons.mpr ⟨mt_1 (List.mem_of_getElem? (i := 96) rfl) rfl, List.forall_mem_cons.mpr ⟨mt_1 (List.mem_of_getElem? (i := 98) rfl) rfl, List.forall_mem_cons.mpr ⟨mt_1 (List.mem_of_getElem? (i := 100) rfl) rfl, List.forall_mem_cons.mpr ⟨mt_1 (List.mem_of_getElem? (i := 102) rfl) rfl, List.forall_mem_cons.mpr ⟨mt_1 (List.mem_of_getElem? (i := 104) rfl) rfl, List.forall_mem_cons.mpr ⟨mt_1 (List.mem_of_getElem? (i := 106) rfl) rfl, List.forall_mem_cons.mpr ⟨mt_1 (List.mem_of_getElem? (i := 108) rfl) rfl, List.forall_mem_cons.mpr ⟨mt_1 (List.mem_of_getElem? (i := 110) rfl) rfl, List.forall_mem_cons.mpr ⟨mt_1 (List.mem_of_getElem? (i := 112) rfl) rfl, fun _ h => absurd h List.not_mem_nil⟩⟩⟩⟩⟩⟩⟩⟩⟩⟩⟩
theorem inX3 : ∀ w ∈ u_ws RX3 TX3 11, w ∈ kT := fun w h => inX3_ w h
theorem inX4_ : ∀ w ∈ ([Cond.laysFinal "KeyDrift$Row" "KeyDrift$Row" "items" "[I", Cond.lays "KeyDrift$Row" "KeyDrift$Row" "lane" "I", Cond.lays "KeyDrift$Row" "KeyDrift$Row" "length" "I"] : List Cond), w ∈ kT := List.forall_mem_cons.mpr ⟨mt_1 (List.mem_of_getElem? (i := 34) rfl) rfl, List.forall_mem_cons.mpr ⟨mt_1 (List.mem_of_getElem? (i := 36) rfl) rfl, List.forall_mem_cons.mpr ⟨mt_1 (List.mem_of_getElem? (i := 38) rfl) rfl, fun _ h => absurd h List.not_mem_nil⟩⟩⟩
theorem inX4 : ∀ w ∈ u_ws RX4 TX4 3, w ∈ kT := fun w h => inX4_ w h
theorem inX5_ : ∀ w ∈ ([Cond.laysFinal "KeyDrift$Tape" "KeyDrift$Tape" "bytes" "[I", Cond.lays "KeyDrift$Tape" "KeyDrift$Tape" "place" "I", Cond.lays "KeyDrift$Tape" "KeyDrift$Tape" "foundFault" "I", Cond.lays "KeyDrift$Tape" "KeyDrift$Tape" "size" "I", Cond.lays "KeyDrift$Tape" "KeyDrift$Tape" "foundAt" "I", Cond.lays "KeyDrift$Tape" "KeyDrift$Tape" "latestFault" "I"] : List Cond), w ∈ kT := List.forall_mem_cons.mpr ⟨mt_1 (List.mem_of_getElem? (i := 130) rfl) rfl, List.forall_mem_cons.mpr ⟨mt_1 (List.mem_of_getElem? (i := 132) rfl) rfl, List.forall_mem_cons.mpr ⟨mt_1 (List.mem_of_getElem? (i := 134) rfl) rfl, List.forall_mem_cons.mpr ⟨mt_1 (List.mem_of_getElem? (i := 136) rfl) rfl, List.forall_mem_cons.mpr ⟨mt_1 (List.mem_of_getElem? (i := 138) rfl) rfl, List.forall_mem_cons.mpr ⟨mt_1 (List.mem_of_getElem? (i := 140) rfl) rfl, fun _ h => absurd h List.not_mem_nil⟩⟩⟩⟩⟩⟩
theorem inX5 : ∀ w ∈ u_ws RX5 TX5 6, w ∈ kT := fun w h => inX5_ w h
theorem inX6_ : ∀ w ∈ ([Cond.laysFinal "KeyDrift" "KeyDrift" "rows" "[LKeyDrift$Row;", Cond.laysFinal "KeyDrift" "KeyDrift" "tape" "LKeyDrift$Tape;", Cond.laysFinal "KeyDrift" "KeyDrift" "now" "LKeyDrift$Hall;", Cond.laysFinal "KeyDrift" "KeyDrift" "spare" "LKeyDrift$Hall;", Cond.laysFinal "KeyDrift" "KeyDrift" "images" "[LKeyDrift$Hall;", Cond.laysFinal "KeyDrift" "KeyDrift" "acts" "LKeyDrift$Acts;", Cond.laysFinal "KeyDrift" "KeyDrift" "foretold" "LKeyDrift$Foretold;", Cond.laysFinal "KeyDrift" "KeyDrift" "asked" "LKeyDrift$Asked;", Cond.lays "KeyDrift" "KeyDrift" "latestFinding" "I"] : List Cond), w ∈ kT := List.forall_mem_cons.mpr ⟨mt_1 (List.mem_of_getElem? (i := 221) rfl) rfl, List.forall_mem_cons.mpr ⟨mt_1 (List.mem_of_getElem? (i := 223) rfl) rfl, List.forall_mem_cons.mpr ⟨mt_1 (List.mem_of_getElem? (i := 225) rfl) rfl, List.forall_mem_cons.mpr ⟨mt_1 (List.mem_of_getElem? (i := 227) rfl) rfl, List.forall_mem_cons.mpr ⟨mt_1 (List.mem_of_getElem? (i := 229) rfl) rfl, List.forall_mem_cons.mpr ⟨mt_1 (List.mem_of_getElem? (i := 231) rfl) rfl, List.forall_mem_cons.mpr ⟨mt_1 (List.mem_of_getElem? (i := 233) rfl) rfl, List.forall_mem_cons.mpr ⟨mt_1 (List.mem_of_getElem? (i := 235) rfl) rfl, List.forall_mem_cons.mpr ⟨mt_1 (List.mem_of_getElem? (i := 237) rfl) rfl, fun _ h => absurd h List.not_mem_nil⟩⟩⟩⟩⟩⟩⟩⟩⟩
theorem inX6 : ∀ w ∈ u_ws RX6 TX6 9, w ∈ kT := fun w h => inX6_ w h
theorem inX7_ : ∀ w ∈ ([Cond.laysFinal "KeyDriftModel" "KeyDriftModel" "lanes" "[I", Cond.laysFinal "KeyDriftModel" "KeyDriftModel" "sizes" "[I", Cond.laysFinal "KeyDriftModel" "KeyDriftModel" "items" "[I", Cond.lays "KeyDriftModel" "KeyDriftModel" "status" "I", Cond.lays "KeyDriftModel" "KeyDriftModel" "isThere" "Z", Cond.laysFinal "KeyDriftModel" "KeyDriftModel" "st" "[I", Cond.laysFinal "KeyDriftModel" "KeyDriftModel" "moved" "[I", Cond.laysFinal "KeyDriftModel" "KeyDriftModel" "tape" "[I", Cond.lays "KeyDriftModel" "KeyDriftModel" "bytes" "I", Cond.lays "KeyDriftModel" "KeyDriftModel" "latest" "I", Cond.lays "KeyDriftModel" "KeyDriftModel" "place" "I", Cond.lays "KeyDriftModel" "KeyDriftModel" "token" "I", Cond.lays "KeyDriftModel" "KeyDriftModel" "value" "I", Cond.lays "KeyDriftModel" "KeyDriftModel" "begins" "I", Cond.lays "KeyDriftModel" "KeyDriftModel" "wrong" "I", Cond.laysFinal "KeyDriftModel" "KeyDriftModel" "read" "[I", Cond.laysFinal "KeyDriftModel" "KeyDriftModel" "acts" "[I", Cond.lays "KeyDriftModel" "KeyDriftModel" "actMany" "I", Cond.lays "KeyDriftModel" "KeyDriftModel" "leastKey" "I", Cond.lays "KeyDriftModel" "KeyDriftModel" "mostKey" "I", Cond.laysFinal "KeyDriftModel" "KeyDriftModel" "fewest" "[I", Cond.laysFinal "KeyDriftModel" "KeyDriftModel" "then" "[I", Cond.laysFinal "KeyDriftModel" "KeyDriftModel" "isKept" "[Z", Cond.laysFinal "KeyDriftModel" "KeyDriftModel" "kept" "[I", Cond.laysFinal "KeyDriftModel" "KeyDriftModel" "trace" "[I", Cond.lays "KeyDriftModel" "KeyDriftModel" "traced" "I"] : List Cond), w ∈ kT := List.forall_mem_cons.mpr ⟨mt_4 (List.mem_of_getElem? (i := 84) rfl) rfl, List.forall_mem_cons.mpr ⟨mt_4 (List.mem_of_getElem? (i := 86) rfl) rfl, List.forall_mem_cons.mpr ⟨mt_4 (List.mem_of_getElem? (i := 88) rfl) rfl, List.forall_mem_cons.mpr ⟨mt_4 (List.mem_of_getElem? (i := 90) rfl) rfl, List.forall_mem_cons.mpr ⟨mt_4 (List.mem_of_getElem? (i := 92) rfl) rfl, List.forall_mem_cons.mpr ⟨mt_4 (List.mem_of_getElem? (i := 94) rfl) rfl, List.forall_mem_cons.mpr ⟨mt_4 (List.mem_of_getElem? (i := 96) rfl) rfl, List.forall_mem_cons.mpr ⟨mt_4 (List.mem_of_getElem? (i := 98) rfl) rfl, List.forall_mem_cons.mpr ⟨mt_4 (List.mem_of_getElem? (i := 100) rfl) rfl, List.forall_mem_cons.mpr ⟨mt_4 (List.mem_of_getElem? (i := 102) rfl) rfl, List.forall_mem_cons.mpr ⟨mt_4 (List.mem_of_getElem? (i := 104) rfl) rfl, List.forall_mem_cons.mpr ⟨mt_4 (List.mem_of_getElem? (i := 106) rfl) rfl, List.forall_mem_cons.mpr ⟨mt_4 (List.mem_of_getElem? (i := 108) rfl) rfl, List.forall_mem_cons.mpr ⟨mt_4 (List.mem_of_getElem? (i := 110) rfl) rfl, List.forall_mem_cons.mpr ⟨mt_4 (List.mem_of_getElem? (i := 112) rfl) rfl, List.forall_mem_cons.mpr ⟨mt_4 (List.mem_of_getElem? (i := 114) rfl) rfl, List.forall_mem_cons.mpr ⟨mt_4 (List.mem_of_getElem? (i := 116) rfl) rfl, List.forall_mem_cons.mpr ⟨mt_4 (List.mem_of_getElem? (i := 118) rfl) rfl, List.forall_mem_cons.mpr ⟨mt_4 (List.mem_of_getElem? (i := 120) rfl) rfl, List.forall_mem_cons.mpr ⟨mt_4 (List.mem_of_getElem? (i := 122) rfl) rfl, List.forall_mem_cons.mpr ⟨mt_4 (List.mem_of_getElem? (i := 124) rfl) rfl, List.forall_mem_cons.mpr ⟨mt_4 (List.mem_of_getElem? (i := 126) rfl) rfl, List.forall_mem_cons.mpr ⟨mt_4 (List.mem_of_getElem? (i := 128) rfl) rfl, List.forall_mem_cons.mpr ⟨mt_4 (List.mem_of_getElem? (i := 130) rfl) rfl, List.forall_mem_cons.mpr ⟨mt_4 (List.mem_of_getElem? (i := 132) rfl) rfl, List.forall_mem_cons.mpr ⟨mt_4 (List.mem_of_getElem? (i := 134) rfl) rfl, fun _ h => absurd h List.not_mem_nil⟩⟩⟩⟩⟩⟩⟩⟩⟩⟩⟩⟩⟩⟩⟩⟩⟩⟩⟩⟩⟩⟩⟩⟩⟩⟩
theorem inX7 : ∀ w ∈ u_ws RX7 TX7 26, w ∈ kT := fun w h => inX7_ w h
