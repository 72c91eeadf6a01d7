def lw_gd : List Cond := lw_tbl.filter goodWord
theorem gd_of {w : Cond} (h : w ∈ lw_tbl) (hg : goodWord w = true) : w ∈ lw_gd := List.mem_filter.mpr ⟨h, hg⟩
theorem gd_tbl {w : Cond} (h : w ∈ lw_gd) : w ∈ lw_tbl := (List.mem_filter.mp h).1
theorem gd_good {w : Cond} (h : w ∈ lw_gd) : goodWord w = true := (List.mem_filter.mp h).2
theorem in_t1 {w : Cond} (h : w ∈ tables_1_1) : w ∈ lw_tbl := List.mem_append_right _ (List.mem_append_left _ h)
theorem in_t2 {w : Cond} (h : w ∈ tables_1_2) : w ∈ lw_tbl := List.mem_append_right _ (List.mem_append_right _ (List.mem_append_left _ h))
theorem in_t3 {w : Cond} (h : w ∈ tables_1_3) : w ∈ lw_tbl := List.mem_append_right _ (List.mem_append_right _ (List.mem_append_right _ h))
theorem ini_L : Cond.initialized RL ∈ lw_gd := gd_of (in_t1 (List.mem_of_getElem? (i := 0) (by decide +kernel))) rfl
theorem ini_X4 : Cond.initialized RX4 ∈ lw_gd := gd_of (in_t1 (List.mem_of_getElem? (i := 1) (by decide +kernel))) rfl
theorem ini_X2 : Cond.initialized RX2 ∈ lw_gd := gd_of (in_t1 (List.mem_of_getElem? (i := 2) (by decide +kernel))) rfl
theorem ini_X3 : Cond.initialized RX3 ∈ lw_gd := gd_of (in_t1 (List.mem_of_getElem? (i := 3) (by decide +kernel))) rfl
theorem ini_X0 : Cond.initialized RX0 ∈ lw_gd := gd_of (in_t1 (List.mem_of_getElem? (i := 4) (by decide +kernel))) rfl
theorem ini_X1 : Cond.initialized RX1 ∈ lw_gd := gd_of (in_t1 (List.mem_of_getElem? (i := 5) (by decide +kernel))) rfl
theorem ini_J9 : Cond.initialized "java/lang/Math" ∈ lw_gd := gd_of (in_t1 (List.mem_of_getElem? (i := 6) (by decide +kernel))) rfl
theorem ini_J6 : Cond.initialized RJ6 ∈ lw_gd := gd_of (in_t1 (List.mem_of_getElem? (i := 7) (by decide +kernel))) rfl
theorem ini_J10 : Cond.initialized "java/lang/System" ∈ lw_gd := gd_of (in_t1 (List.mem_of_getElem? (i := 8) (by decide +kernel))) rfl
theorem cl_L_10 : Cond.classLink RL 10 RX4 ∈ lw_gd := gd_of (in_t1 (List.mem_of_getElem? (i := 9) (by decide +kernel))) rfl
theorem is_X4 : Cond.instantiable RX4 8 ∈ lw_gd := gd_of (in_t1 (List.mem_of_getElem? (i := 10) (by decide +kernel))) rfl
theorem ml_L_93 : Cond.methodLink RL 93 yX4_init ∈ lw_gd := gd_of (in_t1 (List.mem_of_getElem? (i := 11) (by decide +kernel))) rfl
theorem mi_X4_init : Cond.instanceMethod yX4_init ∈ lw_gd := gd_of (in_t1 (List.mem_of_getElem? (i := 12) (by decide +kernel))) rfl
theorem mc_X4_init : Cond.code yX4_init cX4_init 2 none ∈ lw_gd := gd_of (in_t1 (List.mem_of_getElem? (i := 13) (by decide +kernel))) rfl
theorem ml_X4_3 : Cond.methodLink RX4 3 objectInit ∈ lw_gd := gd_of (in_t1 (List.mem_of_getElem? (i := 14) (by decide +kernel))) rfl
theorem mi_obj : Cond.instanceMethod objectInit ∈ lw_gd := gd_of (in_t1 (List.mem_of_getElem? (i := 15) (by decide +kernel))) rfl
theorem mc_obj : Cond.code objectInit ⟨#[0xb1]⟩ 1 none ∈ lw_gd := gd_of (in_t1 (List.mem_of_getElem? (i := 16) (by decide +kernel))) rfl
theorem cl_X4_9 : Cond.classLink RX4 9 RX2 ∈ lw_gd := gd_of (in_t1 (List.mem_of_getElem? (i := 17) (by decide +kernel))) rfl
theorem is_X2 : Cond.instantiable RX2 9 ∈ lw_gd := gd_of (in_t1 (List.mem_of_getElem? (i := 18) (by decide +kernel))) rfl
theorem ml_X4_11 : Cond.methodLink RX4 11 yX2_init ∈ lw_gd := gd_of (in_t1 (List.mem_of_getElem? (i := 19) (by decide +kernel))) rfl
theorem mi_X2_init : Cond.instanceMethod yX2_init ∈ lw_gd := gd_of (in_t1 (List.mem_of_getElem? (i := 20) (by decide +kernel))) rfl
theorem mc_X2_init : Cond.code yX2_init cX2_init 2 none ∈ lw_gd := gd_of (in_t1 (List.mem_of_getElem? (i := 21) (by decide +kernel))) rfl
theorem ml_X2_3 : Cond.methodLink RX2 3 objectInit ∈ lw_gd := gd_of (in_t1 (List.mem_of_getElem? (i := 22) (by decide +kernel))) rfl
theorem cl_X2_15 : Cond.classLink RX2 15 RX0 ∈ lw_gd := gd_of (in_t1 (List.mem_of_getElem? (i := 23) (by decide +kernel))) rfl
theorem ao_X0 : Cond.arrayOver (.object RX0) ∈ lw_tbl := in_t1 (List.mem_of_getElem? (i := 24) (by decide +kernel))
theorem cl_X2_24 : Cond.classLink RX2 24 RX1 ∈ lw_gd := gd_of (in_t1 (List.mem_of_getElem? (i := 25) (by decide +kernel))) rfl
theorem ao_X1 : Cond.arrayOver (.object RX1) ∈ lw_tbl := in_t1 (List.mem_of_getElem? (i := 26) (by decide +kernel))
theorem cl_X2_30 : Cond.classLink RX2 30 RX3 ∈ lw_gd := gd_of (in_t1 (List.mem_of_getElem? (i := 27) (by decide +kernel))) rfl
theorem ao_X3 : Cond.arrayOver (.object RX3) ∈ lw_tbl := in_t1 (List.mem_of_getElem? (i := 28) (by decide +kernel))
theorem is_X3 : Cond.instantiable RX3 2 ∈ lw_gd := gd_of (in_t1 (List.mem_of_getElem? (i := 29) (by decide +kernel))) rfl
theorem ml_X2_36 : Cond.methodLinkNest RX2 36 yX3_init RX4 ∈ lw_tbl := in_t1 (List.mem_of_getElem? (i := 30) (by decide +kernel))
theorem mi_X3_init : Cond.instanceMethod yX3_init ∈ lw_gd := gd_of (in_t1 (List.mem_of_getElem? (i := 31) (by decide +kernel))) rfl
theorem mc_X3_init : Cond.code yX3_init cX3_init 1 none ∈ lw_gd := gd_of (in_t1 (List.mem_of_getElem? (i := 32) (by decide +kernel))) rfl
theorem ml_X3_3 : Cond.methodLink RX3 3 objectInit ∈ lw_gd := gd_of (in_t1 (List.mem_of_getElem? (i := 33) (by decide +kernel))) rfl
theorem lk_X3_9 : Cond.fieldLink RX3 9 RX3 (TX3 0).2.1 (TX3 0).2.2.1 ∈ lw_gd := gd_of (in_t1 (List.mem_of_getElem? (i := 34) (by decide +kernel))) rfl
theorem lk_X2_114 : Cond.fieldLink RX2 114 RX3 (TX3 0).2.1 (TX3 0).2.2.1 ∈ lw_gd := gd_of (in_t1 (List.mem_of_getElem? (i := 35) (by decide +kernel))) rfl
theorem lk_X3_15 : Cond.fieldLink RX3 15 RX3 (TX3 1).2.1 (TX3 1).2.2.1 ∈ lw_gd := gd_of (in_t1 (List.mem_of_getElem? (i := 36) (by decide +kernel))) rfl
theorem lk_X4_176 : Cond.fieldLink RX4 176 RX3 (TX3 1).2.1 (TX3 1).2.2.1 ∈ lw_gd := gd_of (in_t1 (List.mem_of_getElem? (i := 37) (by decide +kernel))) rfl
theorem lk_X2_111 : Cond.fieldLink RX2 111 RX3 (TX3 1).2.1 (TX3 1).2.2.1 ∈ lw_gd := gd_of (in_t1 (List.mem_of_getElem? (i := 38) (by decide +kernel))) rfl
theorem ac_int : Cond.arrayClass .int ∈ lw_gd := gd_of (in_t1 (List.mem_of_getElem? (i := 44) (by decide +kernel))) rfl
theorem is_X0 : Cond.instantiable RX0 4 ∈ lw_gd := gd_of (in_t1 (List.mem_of_getElem? (i := 45) (by decide +kernel))) rfl
theorem ml_X2_44 : Cond.methodLinkNest RX2 44 yX0_init RX4 ∈ lw_tbl := in_t1 (List.mem_of_getElem? (i := 46) (by decide +kernel))
theorem mi_X0_init : Cond.instanceMethod yX0_init ∈ lw_gd := gd_of (in_t1 (List.mem_of_getElem? (i := 47) (by decide +kernel))) rfl
theorem mc_X0_init : Cond.code yX0_init cX0_init 1 none ∈ lw_gd := gd_of (in_t1 (List.mem_of_getElem? (i := 48) (by decide +kernel))) rfl
theorem ml_X0_1 : Cond.methodLink RX0 1 objectInit ∈ lw_gd := gd_of (in_t1 (List.mem_of_getElem? (i := 49) (by decide +kernel))) rfl
theorem lk_X0_7 : Cond.fieldLink RX0 7 RX0 (TX0 0).2.1 (TX0 0).2.2.1 ∈ lw_gd := gd_of (in_t1 (List.mem_of_getElem? (i := 50) (by decide +kernel))) rfl
theorem lk_X4_51 : Cond.fieldLink RX4 51 RX0 (TX0 0).2.1 (TX0 0).2.2.1 ∈ lw_gd := gd_of (in_t1 (List.mem_of_getElem? (i := 51) (by decide +kernel))) rfl
theorem lk_X2_123 : Cond.fieldLink RX2 123 RX0 (TX0 0).2.1 (TX0 0).2.2.1 ∈ lw_gd := gd_of (in_t1 (List.mem_of_getElem? (i := 52) (by decide +kernel))) rfl
theorem lk_X0_13 : Cond.fieldLink RX0 13 RX0 (TX0 1).2.1 (TX0 1).2.2.1 ∈ lw_gd := gd_of (in_t1 (List.mem_of_getElem? (i := 53) (by decide +kernel))) rfl
theorem lk_X4_160 : Cond.fieldLink RX4 160 RX0 (TX0 1).2.1 (TX0 1).2.2.1 ∈ lw_gd := gd_of (in_t1 (List.mem_of_getElem? (i := 54) (by decide +kernel))) rfl
theorem lk_X2_174 : Cond.fieldLink RX2 174 RX0 (TX0 1).2.1 (TX0 1).2.2.1 ∈ lw_gd := gd_of (in_t1 (List.mem_of_getElem? (i := 55) (by decide +kernel))) rfl
theorem lk_X0_16 : Cond.fieldLink RX0 16 RX0 (TX0 2).2.1 (TX0 2).2.2.1 ∈ lw_gd := gd_of (in_t1 (List.mem_of_getElem? (i := 56) (by decide +kernel))) rfl
theorem lk_X4_163 : Cond.fieldLink RX4 163 RX0 (TX0 2).2.1 (TX0 2).2.2.1 ∈ lw_gd := gd_of (in_t1 (List.mem_of_getElem? (i := 57) (by decide +kernel))) rfl
theorem lk_X2_177 : Cond.fieldLink RX2 177 RX0 (TX0 2).2.1 (TX0 2).2.2.1 ∈ lw_gd := gd_of (in_t1 (List.mem_of_getElem? (i := 58) (by decide +kernel))) rfl
theorem lk_X0_19 : Cond.fieldLink RX0 19 RX0 (TX0 3).2.1 (TX0 3).2.2.1 ∈ lw_gd := gd_of (in_t1 (List.mem_of_getElem? (i := 59) (by decide +kernel))) rfl
theorem lk_X4_166 : Cond.fieldLink RX4 166 RX0 (TX0 3).2.1 (TX0 3).2.2.1 ∈ lw_gd := gd_of (in_t1 (List.mem_of_getElem? (i := 60) (by decide +kernel))) rfl
theorem lk_X2_105 : Cond.fieldLink RX2 105 RX0 (TX0 3).2.1 (TX0 3).2.2.1 ∈ lw_gd := gd_of (in_t1 (List.mem_of_getElem? (i := 61) (by decide +kernel))) rfl
theorem is_X1 : Cond.instantiable RX1 11 ∈ lw_gd := gd_of (in_t1 (List.mem_of_getElem? (i := 71) (by decide +kernel))) rfl
theorem ml_X2_45 : Cond.methodLinkNest RX2 45 yX1_init RX4 ∈ lw_tbl := in_t1 (List.mem_of_getElem? (i := 72) (by decide +kernel))
theorem mi_X1_init : Cond.instanceMethod yX1_init ∈ lw_gd := gd_of (in_t1 (List.mem_of_getElem? (i := 73) (by decide +kernel))) rfl
theorem mc_X1_init : Cond.code yX1_init cX1_init 1 none ∈ lw_gd := gd_of (in_t1 (List.mem_of_getElem? (i := 74) (by decide +kernel))) rfl
theorem ml_X1_3 : Cond.methodLink RX1 3 objectInit ∈ lw_gd := gd_of (in_t1 (List.mem_of_getElem? (i := 75) (by decide +kernel))) rfl
theorem lk_X1_9 : Cond.fieldLink RX1 9 RX1 (TX1 0).2.1 (TX1 0).2.2.1 ∈ lw_gd := gd_of (in_t1 (List.mem_of_getElem? (i := 76) (by decide +kernel))) rfl
theorem lk_X4_112 : Cond.fieldLink RX4 112 RX1 (TX1 0).2.1 (TX1 0).2.2.1 ∈ lw_gd := gd_of (in_t1 (List.mem_of_getElem? (i := 77) (by decide +kernel))) rfl
theorem lk_X2_86 : Cond.fieldLink RX2 86 RX1 (TX1 0).2.1 (TX1 0).2.2.1 ∈ lw_gd := gd_of (in_t1 (List.mem_of_getElem? (i := 78) (by decide +kernel))) rfl
theorem lk_X1_15 : Cond.fieldLink RX1 15 RX1 (TX1 1).2.1 (TX1 1).2.2.1 ∈ lw_gd := gd_of (in_t1 (List.mem_of_getElem? (i := 79) (by decide +kernel))) rfl
theorem lk_X2_73 : Cond.fieldLink RX2 73 RX1 (TX1 1).2.1 (TX1 1).2.2.1 ∈ lw_gd := gd_of (in_t1 (List.mem_of_getElem? (i := 80) (by decide +kernel))) rfl
theorem lk_X4_115 : Cond.fieldLink RX4 115 RX1 (TX1 1).2.1 (TX1 1).2.2.1 ∈ lw_gd := gd_of (in_t1 (List.mem_of_getElem? (i := 81) (by decide +kernel))) rfl
theorem lk_X1_18 : Cond.fieldLink RX1 18 RX1 (TX1 2).2.1 (TX1 2).2.2.1 ∈ lw_gd := gd_of (in_t1 (List.mem_of_getElem? (i := 82) (by decide +kernel))) rfl
theorem lk_X1_22 : Cond.fieldLink RX1 22 RX1 (TX1 3).2.1 (TX1 3).2.2.1 ∈ lw_gd := gd_of (in_t1 (List.mem_of_getElem? (i := 83) (by decide +kernel))) rfl
theorem lk_X4_142 : Cond.fieldLink RX4 142 RX1 (TX1 3).2.1 (TX1 3).2.2.1 ∈ lw_gd := gd_of (in_t1 (List.mem_of_getElem? (i := 84) (by decide +kernel))) rfl
theorem lk_X1_25 : Cond.fieldLink RX1 25 RX1 (TX1 4).2.1 (TX1 4).2.2.1 ∈ lw_gd := gd_of (in_t1 (List.mem_of_getElem? (i := 85) (by decide +kernel))) rfl
theorem lk_X4_106 : Cond.fieldLink RX4 106 RX1 (TX1 4).2.1 (TX1 4).2.2.1 ∈ lw_gd := gd_of (in_t1 (List.mem_of_getElem? (i := 86) (by decide +kernel))) rfl
theorem lk_X2_168 : Cond.fieldLink RX2 168 RX1 (TX1 4).2.1 (TX1 4).2.2.1 ∈ lw_gd := gd_of (in_t1 (List.mem_of_getElem? (i := 87) (by decide +kernel))) rfl
theorem lk_X1_28 : Cond.fieldLink RX1 28 RX1 (TX1 5).2.1 (TX1 5).2.2.1 ∈ lw_gd := gd_of (in_t1 (List.mem_of_getElem? (i := 88) (by decide +kernel))) rfl
theorem lk_X2_80 : Cond.fieldLink RX2 80 RX1 (TX1 5).2.1 (TX1 5).2.2.1 ∈ lw_gd := gd_of (in_t1 (List.mem_of_getElem? (i := 89) (by decide +kernel))) rfl
theorem lk_X4_94 : Cond.fieldLink RX4 94 RX1 (TX1 5).2.1 (TX1 5).2.2.1 ∈ lw_gd := gd_of (in_t1 (List.mem_of_getElem? (i := 90) (by decide +kernel))) rfl
theorem lk_X1_31 : Cond.fieldLink RX1 31 RX1 (TX1 6).2.1 (TX1 6).2.2.1 ∈ lw_gd := gd_of (in_t1 (List.mem_of_getElem? (i := 91) (by decide +kernel))) rfl
theorem lk_X4_127 : Cond.fieldLink RX4 127 RX1 (TX1 6).2.1 (TX1 6).2.2.1 ∈ lw_gd := gd_of (in_t1 (List.mem_of_getElem? (i := 92) (by decide +kernel))) rfl
theorem lk_X2_89 : Cond.fieldLink RX2 89 RX1 (TX1 6).2.1 (TX1 6).2.2.1 ∈ lw_gd := gd_of (in_t1 (List.mem_of_getElem? (i := 93) (by decide +kernel))) rfl
theorem lk_X1_34 : Cond.fieldLink RX1 34 RX1 (TX1 7).2.1 (TX1 7).2.2.1 ∈ lw_gd := gd_of (in_t1 (List.mem_of_getElem? (i := 94) (by decide +kernel))) rfl
theorem lk_X4_133 : Cond.fieldLink RX4 133 RX1 (TX1 7).2.1 (TX1 7).2.2.1 ∈ lw_gd := gd_of (in_t1 (List.mem_of_getElem? (i := 95) (by decide +kernel))) rfl
theorem lk_X2_142 : Cond.fieldLink RX2 142 RX1 (TX1 7).2.1 (TX1 7).2.2.1 ∈ lw_gd := gd_of (in_t1 (List.mem_of_getElem? (i := 96) (by decide +kernel))) rfl
theorem lk_X1_37 : Cond.fieldLink RX1 37 RX1 (TX1 8).2.1 (TX1 8).2.2.1 ∈ lw_gd := gd_of (in_t1 (List.mem_of_getElem? (i := 97) (by decide +kernel))) rfl
theorem lk_X2_165 : Cond.fieldLink RX2 165 RX1 (TX1 8).2.1 (TX1 8).2.2.1 ∈ lw_gd := gd_of (in_t1 (List.mem_of_getElem? (i := 98) (by decide +kernel))) rfl
theorem lk_X1_40 : Cond.fieldLink RX1 40 RX1 (TX1 9).2.1 (TX1 9).2.2.1 ∈ lw_gd := gd_of (in_t1 (List.mem_of_getElem? (i := 99) (by decide +kernel))) rfl
theorem lk_X4_136 : Cond.fieldLink RX4 136 RX1 (TX1 9).2.1 (TX1 9).2.2.1 ∈ lw_gd := gd_of (in_t1 (List.mem_of_getElem? (i := 100) (by decide +kernel))) rfl
theorem lk_X2_171 : Cond.fieldLink RX2 171 RX1 (TX1 9).2.1 (TX1 9).2.2.1 ∈ lw_gd := gd_of (in_t1 (List.mem_of_getElem? (i := 101) (by decide +kernel))) rfl
theorem lk_X4_154 : Cond.fieldLink RX4 154 RX1 (TX1 10).2.1 (TX1 10).2.2.1 ∈ lw_gd := gd_of (in_t1 (List.mem_of_getElem? (i := 102) (by decide +kernel))) rfl
theorem lk_X2_126 : Cond.fieldLink RX2 126 RX1 (TX1 10).2.1 (TX1 10).2.2.1 ∈ lw_gd := gd_of (in_t1 (List.mem_of_getElem? (i := 103) (by decide +kernel))) rfl
theorem lk_X2_9 : Cond.fieldLink RX2 9 RX2 (TX2 0).2.1 (TX2 0).2.2.1 ∈ lw_gd := gd_of (in_t1 (List.mem_of_getElem? (i := 127) (by decide +kernel))) rfl
theorem lk_X4_44 : Cond.fieldLink RX4 44 RX2 (TX2 0).2.1 (TX2 0).2.2.1 ∈ lw_gd := gd_of (in_t1 (List.mem_of_getElem? (i := 128) (by decide +kernel))) rfl
theorem lk_X2_17 : Cond.fieldLink RX2 17 RX2 (TX2 1).2.1 (TX2 1).2.2.1 ∈ lw_gd := gd_of (in_t1 (List.mem_of_getElem? (i := 129) (by decide +kernel))) rfl
theorem lk_X4_47 : Cond.fieldLink RX4 47 RX2 (TX2 1).2.1 (TX2 1).2.2.1 ∈ lw_gd := gd_of (in_t1 (List.mem_of_getElem? (i := 130) (by decide +kernel))) rfl
theorem lk_X2_21 : Cond.fieldLink RX2 21 RX2 (TX2 2).2.1 (TX2 2).2.2.1 ∈ lw_gd := gd_of (in_t1 (List.mem_of_getElem? (i := 131) (by decide +kernel))) rfl
theorem lk_X4_63 : Cond.fieldLink RX4 63 RX2 (TX2 2).2.1 (TX2 2).2.2.1 ∈ lw_gd := gd_of (in_t1 (List.mem_of_getElem? (i := 132) (by decide +kernel))) rfl
theorem lk_X2_26 : Cond.fieldLink RX2 26 RX2 (TX2 3).2.1 (TX2 3).2.2.1 ∈ lw_gd := gd_of (in_t1 (List.mem_of_getElem? (i := 133) (by decide +kernel))) rfl
theorem lk_X4_90 : Cond.fieldLink RX4 90 RX2 (TX2 3).2.1 (TX2 3).2.2.1 ∈ lw_gd := gd_of (in_t1 (List.mem_of_getElem? (i := 134) (by decide +kernel))) rfl
theorem lk_X2_32 : Cond.fieldLink RX2 32 RX2 (TX2 4).2.1 (TX2 4).2.2.1 ∈ lw_gd := gd_of (in_t1 (List.mem_of_getElem? (i := 135) (by decide +kernel))) rfl
theorem lk_X4_118 : Cond.fieldLink RX4 118 RX2 (TX2 4).2.1 (TX2 4).2.2.1 ∈ lw_gd := gd_of (in_t1 (List.mem_of_getElem? (i := 136) (by decide +kernel))) rfl
theorem lk_X2_37 : Cond.fieldLink RX2 37 RX2 (TX2 5).2.1 (TX2 5).2.2.1 ∈ lw_gd := gd_of (in_t1 (List.mem_of_getElem? (i := 137) (by decide +kernel))) rfl
theorem lk_X2_41 : Cond.fieldLink RX2 41 RX2 (TX2 6).2.1 (TX2 6).2.2.1 ∈ lw_gd := gd_of (in_t1 (List.mem_of_getElem? (i := 138) (by decide +kernel))) rfl
theorem lk_X2_56 : Cond.fieldLink RX2 56 RX2 (TX2 7).2.1 (TX2 7).2.2.1 ∈ lw_gd := gd_of (in_t1 (List.mem_of_getElem? (i := 139) (by decide +kernel))) rfl
theorem lk_X4_74 : Cond.fieldLink RX4 74 RX2 (TX2 7).2.1 (TX2 7).2.2.1 ∈ lw_gd := gd_of (in_t1 (List.mem_of_getElem? (i := 140) (by decide +kernel))) rfl
theorem lk_X2_66 : Cond.fieldLink RX2 66 RX2 (TX2 8).2.1 (TX2 8).2.2.1 ∈ lw_gd := gd_of (in_t1 (List.mem_of_getElem? (i := 141) (by decide +kernel))) rfl
theorem lk_X4_103 : Cond.fieldLink RX4 103 RX2 (TX2 8).2.1 (TX2 8).2.2.1 ∈ lw_gd := gd_of (in_t1 (List.mem_of_getElem? (i := 142) (by decide +kernel))) rfl
theorem ao_X2 : Cond.arrayOver (.object RX2) ∈ lw_tbl := in_t1 (List.mem_of_getElem? (i := 162) (by decide +kernel))
theorem lk_X4_12 : Cond.fieldLink RX4 12 RX4 (TX4 0).2.1 (TX4 0).2.2.1 ∈ lw_gd := gd_of (in_t1 (List.mem_of_getElem? (i := 163) (by decide +kernel))) rfl
theorem lk_X4_16 : Cond.fieldLink RX4 16 RX4 (TX4 1).2.1 (TX4 1).2.2.1 ∈ lw_gd := gd_of (in_t1 (List.mem_of_getElem? (i := 164) (by decide +kernel))) rfl
theorem lk_X4_19 : Cond.fieldLink RX4 19 RX4 (TX4 2).2.1 (TX4 2).2.2.1 ∈ lw_gd := gd_of (in_t1 (List.mem_of_getElem? (i := 165) (by decide +kernel))) rfl
theorem lk_X4_23 : Cond.fieldLink RX4 23 RX4 (TX4 3).2.1 (TX4 3).2.2.1 ∈ lw_gd := gd_of (in_t1 (List.mem_of_getElem? (i := 166) (by decide +kernel))) rfl
theorem lk_X4_26 : Cond.fieldLink RX4 26 RX4 (TX4 4).2.1 (TX4 4).2.2.1 ∈ lw_gd := gd_of (in_t1 (List.mem_of_getElem? (i := 167) (by decide +kernel))) rfl
theorem lk_X4_30 : Cond.fieldLink RX4 30 RX4 (TX4 5).2.1 (TX4 5).2.2.1 ∈ lw_gd := gd_of (in_t1 (List.mem_of_getElem? (i := 168) (by decide +kernel))) rfl
theorem lk_X4_191 : Cond.fieldLink RX4 191 RX4 (TX4 6).2.1 (TX4 6).2.2.1 ∈ lw_gd := gd_of (in_t1 (List.mem_of_getElem? (i := 169) (by decide +kernel))) rfl
theorem lk_X4_83 : Cond.fieldLink RX4 83 RX4 (TX4 7).2.1 (TX4 7).2.2.1 ∈ lw_gd := gd_of (in_t1 (List.mem_of_getElem? (i := 170) (by decide +kernel))) rfl
theorem ac_boolean : Cond.arrayClass .boolean ∈ lw_gd := gd_of (in_t1 (List.mem_of_getElem? (i := 188) (by decide +kernel))) rfl
theorem ac_char : Cond.arrayClass .char ∈ lw_gd := gd_of (in_t1 (List.mem_of_getElem? (i := 189) (by decide +kernel))) rfl
theorem ml_L_97 : Cond.methodLink RL 97 yX4_onShift ∈ lw_gd := gd_of (in_t1 (List.mem_of_getElem? (i := 190) (by decide +kernel))) rfl
theorem mi_X4_onShift : Cond.instanceMethod yX4_onShift ∈ lw_gd := gd_of (in_t1 (List.mem_of_getElem? (i := 191) (by decide +kernel))) rfl
theorem ms_X4_onShift : Cond.selects RX4 yX4_onShift yX4_onShift ∈ lw_gd := gd_of (in_t1 (List.mem_of_getElem? (i := 192) (by decide +kernel))) rfl
theorem mc_X4_onShift : Cond.code yX4_onShift cX4_onShift 3 (some .int) ∈ lw_gd := gd_of (in_t1 (List.mem_of_getElem? (i := 193) (by decide +kernel))) rfl
theorem ml_X4_169 : Cond.methodLink RX4 169 yX2_censorNumber ∈ lw_gd := gd_of (in_t1 (List.mem_of_getElem? (i := 194) (by decide +kernel))) rfl
theorem mi_X2_censorNumber : Cond.instanceMethod yX2_censorNumber ∈ lw_gd := gd_of (in_t1 (List.mem_of_getElem? (i := 195) (by decide +kernel))) rfl
theorem ms_X2_censorNumber : Cond.selects RX2 yX2_censorNumber yX2_censorNumber ∈ lw_gd := gd_of (in_t1 (List.mem_of_getElem? (i := 196) (by decide +kernel))) rfl
theorem mc_X2_censorNumber : Cond.code yX2_censorNumber cX2_censorNumber 3 (some .int) ∈ lw_gd := gd_of (in_t1 (List.mem_of_getElem? (i := 197) (by decide +kernel))) rfl
theorem ml_L_9 : Cond.methodLink RL 9 yX4_count ∈ lw_gd := gd_of (in_t1 (List.mem_of_getElem? (i := 198) (by decide +kernel))) rfl
theorem mi_X4_count : Cond.instanceMethod yX4_count ∈ lw_gd := gd_of (in_t1 (List.mem_of_getElem? (i := 199) (by decide +kernel))) rfl
theorem ms_X4_count : Cond.selects RX4 yX4_count yX4_count ∈ lw_gd := gd_of (in_t1 (List.mem_of_getElem? (i := 200) (by decide +kernel))) rfl
theorem mc_X4_count : Cond.code yX4_count cX4_count 2 (some .int) ∈ lw_gd := gd_of (in_t1 (List.mem_of_getElem? (i := 201) (by decide +kernel))) rfl
theorem ml_X4_173 : Cond.methodLink RX4 173 yX2_lettersThatAre ∈ lw_gd := gd_of (in_t1 (List.mem_of_getElem? (i := 202) (by decide +kernel))) rfl
theorem mi_X2_lettersThatAre : Cond.instanceMethod yX2_lettersThatAre ∈ lw_gd := gd_of (in_t1 (List.mem_of_getElem? (i := 203) (by decide +kernel))) rfl
theorem ms_X2_lettersThatAre : Cond.selects RX2 yX2_lettersThatAre yX2_lettersThatAre ∈ lw_gd := gd_of (in_t1 (List.mem_of_getElem? (i := 204) (by decide +kernel))) rfl
theorem mc_X2_lettersThatAre : Cond.code yX2_lettersThatAre cX2_lettersThatAre 4 (some .int) ∈ lw_gd := gd_of (in_t1 (List.mem_of_getElem? (i := 205) (by decide +kernel))) rfl
theorem ml_X4_179 : Cond.methodLink RX4 179 yX2_allDelays ∈ lw_gd := gd_of (in_t1 (List.mem_of_getElem? (i := 206) (by decide +kernel))) rfl
theorem mi_X2_allDelays : Cond.instanceMethod yX2_allDelays ∈ lw_gd := gd_of (in_t1 (List.mem_of_getElem? (i := 207) (by decide +kernel))) rfl
theorem ms_X2_allDelays : Cond.selects RX2 yX2_allDelays yX2_allDelays ∈ lw_gd := gd_of (in_t1 (List.mem_of_getElem? (i := 208) (by decide +kernel))) rfl
theorem mc_X2_allDelays : Cond.code yX2_allDelays cX2_allDelays 3 (some .int) ∈ lw_gd := gd_of (in_t1 (List.mem_of_getElem? (i := 209) (by decide +kernel))) rfl
theorem ml_X4_182 : Cond.methodLink RX4 182 yX2_longestDelay ∈ lw_gd := gd_of (in_t1 (List.mem_of_getElem? (i := 210) (by decide +kernel))) rfl
theorem mi_X2_longestDelay : Cond.instanceMethod yX2_longestDelay ∈ lw_gd := gd_of (in_t1 (List.mem_of_getElem? (i := 211) (by decide +kernel))) rfl
theorem ms_X2_longestDelay : Cond.selects RX2 yX2_longestDelay yX2_longestDelay ∈ lw_gd := gd_of (in_t1 (List.mem_of_getElem? (i := 212) (by decide +kernel))) rfl
theorem mc_X2_longestDelay : Cond.code yX2_longestDelay cX2_longestDelay 3 (some .int) ∈ lw_gd := gd_of (in_t1 (List.mem_of_getElem? (i := 213) (by decide +kernel))) rfl
theorem ml_X2_92 : Cond.methodLink RX2 92 Lib.Math.max.name ∈ lw_gd := gd_of (in_t1 (List.mem_of_getElem? (i := 214) (by decide +kernel))) rfl
theorem mt_max : Cond.static Lib.Math.max.name ∈ lw_gd := gd_of (in_t1 (List.mem_of_getElem? (i := 215) (by decide +kernel))) rfl
theorem mc_max : Cond.code Lib.Math.max.name Lib.Math.max.code 2 (some .int) ∈ lw_gd := gd_of (in_t1 (List.mem_of_getElem? (i := 216) (by decide +kernel))) rfl
theorem ml_X4_185 : Cond.methodLink RX4 185 yX2_wordsStruckInLetters ∈ lw_gd := gd_of (in_t1 (List.mem_of_getElem? (i := 217) (by decide +kernel))) rfl
theorem mi_X2_wordsStruckInLetters : Cond.instanceMethod yX2_wordsStruckInLetters ∈ lw_gd := gd_of (in_t1 (List.mem_of_getElem? (i := 218) (by decide +kernel))) rfl
theorem ms_X2_wordsStruckInLetters : Cond.selects RX2 yX2_wordsStruckInLetters yX2_wordsStruckInLetters ∈ lw_gd := gd_of (in_t1 (List.mem_of_getElem? (i := 219) (by decide +kernel))) rfl
theorem mc_X2_wordsStruckInLetters : Cond.code yX2_wordsStruckInLetters cX2_wordsStruckInLetters 3 (some .int) ∈ lw_gd := gd_of (in_t1 (List.mem_of_getElem? (i := 220) (by decide +kernel))) rfl
theorem ml_X2_98 : Cond.methodLink RX2 98 yX1_struckCount ∈ lw_gd := gd_of (in_t1 (List.mem_of_getElem? (i := 221) (by decide +kernel))) rfl
theorem mi_X1_struckCount : Cond.instanceMethod yX1_struckCount ∈ lw_gd := gd_of (in_t1 (List.mem_of_getElem? (i := 222) (by decide +kernel))) rfl
theorem ms_X1_struckCount : Cond.selects RX1 yX1_struckCount yX1_struckCount ∈ lw_gd := gd_of (in_t1 (List.mem_of_getElem? (i := 223) (by decide +kernel))) rfl
theorem mc_X1_struckCount : Cond.code yX1_struckCount cX1_struckCount 1 (some .int) ∈ lw_gd := gd_of (in_t1 (List.mem_of_getElem? (i := 224) (by decide +kernel))) rfl
theorem ml_X1_43 : Cond.methodLink RX1 43 yJ6_bitCount_0f7a4 ∈ lw_gd := gd_of (in_t1 (List.mem_of_getElem? (i := 225) (by decide +kernel))) rfl
theorem mt_J6_bitCount_0f7a4 : Cond.static yJ6_bitCount_0f7a4 ∈ lw_gd := gd_of (in_t1 (List.mem_of_getElem? (i := 226) (by decide +kernel))) rfl
theorem mc_J6_bitCount_0f7a4 : Cond.code yJ6_bitCount_0f7a4 cJ6_bitCount_0f7a4 1 (some .int) ∈ lw_gd := gd_of (in_t1 (List.mem_of_getElem? (i := 227) (by decide +kernel))) rfl
theorem lc_J6_265 : Cond.constant RJ6 265 1431655765 ∈ lw_gd := gd_of (in_t1 (List.mem_of_getElem? (i := 228) (by decide +kernel))) rfl
theorem lc_J6_266 : Cond.constant RJ6 266 858993459 ∈ lw_gd := gd_of (in_t1 (List.mem_of_getElem? (i := 229) (by decide +kernel))) rfl
theorem lc_J6_267 : Cond.constant RJ6 267 252645135 ∈ lw_gd := gd_of (in_t1 (List.mem_of_getElem? (i := 230) (by decide +kernel))) rfl
theorem ml_X4_188 : Cond.methodLink RX4 188 yX2_threadsThatWait ∈ lw_gd := gd_of (in_t1 (List.mem_of_getElem? (i := 231) (by decide +kernel))) rfl
theorem mi_X2_threadsThatWait : Cond.instanceMethod yX2_threadsThatWait ∈ lw_gd := gd_of (in_t1 (List.mem_of_getElem? (i := 232) (by decide +kernel))) rfl
theorem ms_X2_threadsThatWait : Cond.selects RX2 yX2_threadsThatWait yX2_threadsThatWait ∈ lw_gd := gd_of (in_t1 (List.mem_of_getElem? (i := 233) (by decide +kernel))) rfl
theorem mc_X2_threadsThatWait : Cond.code yX2_threadsThatWait cX2_threadsThatWait 3 (some .int) ∈ lw_gd := gd_of (in_t1 (List.mem_of_getElem? (i := 234) (by decide +kernel))) rfl
theorem ml_X2_102 : Cond.methodLink RX2 102 yX2_findHeads ∈ lw_gd := gd_of (in_t1 (List.mem_of_getElem? (i := 235) (by decide +kernel))) rfl
theorem mi_X2_findHeads : Cond.instanceMethod yX2_findHeads ∈ lw_gd := gd_of (in_t1 (List.mem_of_getElem? (i := 236) (by decide +kernel))) rfl
theorem ms_X2_findHeads : Cond.selects RX2 yX2_findHeads yX2_findHeads ∈ lw_gd := gd_of (in_t1 (List.mem_of_getElem? (i := 237) (by decide +kernel))) rfl
theorem mc_X2_findHeads : Cond.code yX2_findHeads cX2_findHeads 2 none ∈ lw_gd := gd_of (in_t1 (List.mem_of_getElem? (i := 238) (by decide +kernel))) rfl
theorem ml_X2_108 : Cond.methodLink RX2 108 yX2_findHeadsIn ∈ lw_gd := gd_of (in_t1 (List.mem_of_getElem? (i := 239) (by decide +kernel))) rfl
theorem mi_X2_findHeadsIn : Cond.instanceMethod yX2_findHeadsIn ∈ lw_gd := gd_of (in_t2 (List.mem_of_getElem? (i := 0) (by decide +kernel))) rfl
theorem ms_X2_findHeadsIn : Cond.selects RX2 yX2_findHeadsIn yX2_findHeadsIn ∈ lw_gd := gd_of (in_t2 (List.mem_of_getElem? (i := 1) (by decide +kernel))) rfl
theorem mc_X2_findHeadsIn : Cond.code yX2_findHeadsIn cX2_findHeadsIn 5 none ∈ lw_gd := gd_of (in_t2 (List.mem_of_getElem? (i := 2) (by decide +kernel))) rfl
theorem ml_L_83 : Cond.methodLink RL 83 yX4_undo ∈ lw_gd := gd_of (in_t2 (List.mem_of_getElem? (i := 3) (by decide +kernel))) rfl
theorem mi_X4_undo : Cond.instanceMethod yX4_undo ∈ lw_gd := gd_of (in_t2 (List.mem_of_getElem? (i := 4) (by decide +kernel))) rfl
theorem ms_X4_undo : Cond.selects RX4 yX4_undo yX4_undo ∈ lw_gd := gd_of (in_t2 (List.mem_of_getElem? (i := 5) (by decide +kernel))) rfl
theorem mc_X4_undo : Cond.code yX4_undo cX4_undo 1 (some .int) ∈ lw_gd := gd_of (in_t2 (List.mem_of_getElem? (i := 6) (by decide +kernel))) rfl
theorem ml_X4_194 : Cond.methodLink RX4 194 yX2_copyFrom ∈ lw_gd := gd_of (in_t2 (List.mem_of_getElem? (i := 7) (by decide +kernel))) rfl
theorem mi_X2_copyFrom : Cond.instanceMethod yX2_copyFrom ∈ lw_gd := gd_of (in_t2 (List.mem_of_getElem? (i := 8) (by decide +kernel))) rfl
theorem ms_X2_copyFrom : Cond.selects RX2 yX2_copyFrom yX2_copyFrom ∈ lw_gd := gd_of (in_t2 (List.mem_of_getElem? (i := 9) (by decide +kernel))) rfl
theorem mc_X2_copyFrom : Cond.code yX2_copyFrom cX2_copyFrom 3 none ∈ lw_gd := gd_of (in_t2 (List.mem_of_getElem? (i := 10) (by decide +kernel))) rfl
theorem ml_X2_46 : Cond.methodLink RX2 46 arraycopyName ∈ lw_gd := gd_of (in_t2 (List.mem_of_getElem? (i := 11) (by decide +kernel))) rfl
theorem mt_acopy : Cond.static arraycopyName ∈ lw_gd := gd_of (in_t2 (List.mem_of_getElem? (i := 12) (by decide +kernel))) rfl
theorem mn_acopy : Cond.native arraycopyName ∈ lw_gd := gd_of (in_t2 (List.mem_of_getElem? (i := 13) (by decide +kernel))) rfl
theorem ml_X2_52 : Cond.methodLink RX2 52 yX0_copyFrom ∈ lw_gd := gd_of (in_t2 (List.mem_of_getElem? (i := 14) (by decide +kernel))) rfl
theorem mi_X0_copyFrom : Cond.instanceMethod yX0_copyFrom ∈ lw_gd := gd_of (in_t2 (List.mem_of_getElem? (i := 15) (by decide +kernel))) rfl
theorem ms_X0_copyFrom : Cond.selects RX0 yX0_copyFrom yX0_copyFrom ∈ lw_gd := gd_of (in_t2 (List.mem_of_getElem? (i := 16) (by decide +kernel))) rfl
theorem mc_X0_copyFrom : Cond.code yX0_copyFrom cX0_copyFrom 2 none ∈ lw_gd := gd_of (in_t2 (List.mem_of_getElem? (i := 17) (by decide +kernel))) rfl
theorem ml_X2_60 : Cond.methodLink RX2 60 yX1_copyFrom ∈ lw_gd := gd_of (in_t2 (List.mem_of_getElem? (i := 18) (by decide +kernel))) rfl
theorem mi_X1_copyFrom : Cond.instanceMethod yX1_copyFrom ∈ lw_gd := gd_of (in_t2 (List.mem_of_getElem? (i := 19) (by decide +kernel))) rfl
theorem ms_X1_copyFrom : Cond.selects RX1 yX1_copyFrom yX1_copyFrom ∈ lw_gd := gd_of (in_t2 (List.mem_of_getElem? (i := 20) (by decide +kernel))) rfl
theorem mc_X1_copyFrom : Cond.code yX1_copyFrom cX1_copyFrom 2 none ∈ lw_gd := gd_of (in_t2 (List.mem_of_getElem? (i := 21) (by decide +kernel))) rfl
theorem ml_X2_63 : Cond.methodLink RX2 63 yX3_copyFrom ∈ lw_gd := gd_of (in_t2 (List.mem_of_getElem? (i := 22) (by decide +kernel))) rfl
theorem mi_X3_copyFrom : Cond.instanceMethod yX3_copyFrom ∈ lw_gd := gd_of (in_t2 (List.mem_of_getElem? (i := 23) (by decide +kernel))) rfl
theorem ms_X3_copyFrom : Cond.selects RX3 yX3_copyFrom yX3_copyFrom ∈ lw_gd := gd_of (in_t2 (List.mem_of_getElem? (i := 24) (by decide +kernel))) rfl
theorem mc_X3_copyFrom : Cond.code yX3_copyFrom cX3_copyFrom 2 none ∈ lw_gd := gd_of (in_t2 (List.mem_of_getElem? (i := 25) (by decide +kernel))) rfl
theorem ml_X3_19 : Cond.methodLink RX3 19 arraycopyName ∈ lw_gd := gd_of (in_t2 (List.mem_of_getElem? (i := 26) (by decide +kernel))) rfl
theorem ml_L_100 : Cond.methodLink RL 100 yL_cell ∈ lw_gd := gd_of (in_t2 (List.mem_of_getElem? (i := 27) (by decide +kernel))) rfl
theorem mt_L_cell : Cond.static yL_cell ∈ lw_gd := gd_of (in_t2 (List.mem_of_getElem? (i := 28) (by decide +kernel))) rfl
theorem mc_L_cell : Cond.code yL_cell cL_cell 2 (some .int) ∈ lw_gd := gd_of (in_t2 (List.mem_of_getElem? (i := 29) (by decide +kernel))) rfl
theorem lc_L_7 : Cond.constant RL 7 40503 ∈ lw_gd := gd_of (in_t2 (List.mem_of_getElem? (i := 30) (by decide +kernel))) rfl
theorem ml_L_15 : Cond.methodLink RL 15 yL_low ∈ lw_gd := gd_of (in_t2 (List.mem_of_getElem? (i := 31) (by decide +kernel))) rfl
theorem mt_L_low : Cond.static yL_low ∈ lw_gd := gd_of (in_t2 (List.mem_of_getElem? (i := 32) (by decide +kernel))) rfl
theorem mc_L_low : Cond.code yL_low cL_low 2 (some .int) ∈ lw_gd := gd_of (in_t2 (List.mem_of_getElem? (i := 33) (by decide +kernel))) rfl
theorem lc_L_8 : Cond.constant RL 8 2147483647 ∈ lw_gd := gd_of (in_t2 (List.mem_of_getElem? (i := 34) (by decide +kernel))) rfl
theorem ml_L_104 : Cond.methodLink RL 104 yL_change ∈ lw_gd := gd_of (in_t2 (List.mem_of_getElem? (i := 35) (by decide +kernel))) rfl
theorem mt_L_change : Cond.static yL_change ∈ lw_gd := gd_of (in_t2 (List.mem_of_getElem? (i := 36) (by decide +kernel))) rfl
theorem mc_L_change : Cond.code yL_change cL_change 7 (some .int) ∈ lw_gd := gd_of (in_t2 (List.mem_of_getElem? (i := 37) (by decide +kernel))) rfl
theorem ml_L_21 : Cond.methodLink RL 21 yX4_put ∈ lw_gd := gd_of (in_t2 (List.mem_of_getElem? (i := 38) (by decide +kernel))) rfl
theorem mi_X4_put : Cond.instanceMethod yX4_put ∈ lw_gd := gd_of (in_t2 (List.mem_of_getElem? (i := 39) (by decide +kernel))) rfl
theorem ms_X4_put : Cond.selects RX4 yX4_put yX4_put ∈ lw_gd := gd_of (in_t2 (List.mem_of_getElem? (i := 40) (by decide +kernel))) rfl
theorem mc_X4_put : Cond.code yX4_put cX4_put 5 (some .int) ∈ lw_gd := gd_of (in_t2 (List.mem_of_getElem? (i := 41) (by decide +kernel))) rfl
theorem ml_X4_207 : Cond.methodLink RX4 207 yX4_lengthOf ∈ lw_gd := gd_of (in_t2 (List.mem_of_getElem? (i := 42) (by decide +kernel))) rfl
theorem mt_X4_lengthOf : Cond.static yX4_lengthOf ∈ lw_gd := gd_of (in_t2 (List.mem_of_getElem? (i := 43) (by decide +kernel))) rfl
theorem mc_X4_lengthOf : Cond.code yX4_lengthOf cX4_lengthOf 6 (some .int) ∈ lw_gd := gd_of (in_t2 (List.mem_of_getElem? (i := 44) (by decide +kernel))) rfl
theorem lc_X4_211 : Cond.constantLong RX4 211 255 ∈ lw_gd := gd_of (in_t2 (List.mem_of_getElem? (i := 45) (by decide +kernel))) rfl
theorem lc_L_25 : Cond.constantLong RL 25 62 ∈ lw_gd := gd_of (in_t2 (List.mem_of_getElem? (i := 46) (by decide +kernel))) rfl
theorem lc_L_27 : Cond.constantLong RL 27 60 ∈ lw_gd := gd_of (in_t2 (List.mem_of_getElem? (i := 47) (by decide +kernel))) rfl
theorem ml_L_29 : Cond.methodLink RL 29 yX4_read ∈ lw_gd := gd_of (in_t2 (List.mem_of_getElem? (i := 48) (by decide +kernel))) rfl
theorem mi_X4_read : Cond.instanceMethod yX4_read ∈ lw_gd := gd_of (in_t2 (List.mem_of_getElem? (i := 49) (by decide +kernel))) rfl
theorem ms_X4_read : Cond.selects RX4 yX4_read yX4_read ∈ lw_gd := gd_of (in_t2 (List.mem_of_getElem? (i := 50) (by decide +kernel))) rfl
theorem mc_X4_read : Cond.code yX4_read cX4_read 1 (some .int) ∈ lw_gd := gd_of (in_t2 (List.mem_of_getElem? (i := 51) (by decide +kernel))) rfl
theorem ml_X4_70 : Cond.methodLink RX4 70 yX4_faultOfPad ∈ lw_gd := gd_of (in_t2 (List.mem_of_getElem? (i := 52) (by decide +kernel))) rfl
theorem mi_X4_faultOfPad : Cond.instanceMethod yX4_faultOfPad ∈ lw_gd := gd_of (in_t2 (List.mem_of_getElem? (i := 54) (by decide +kernel))) rfl
theorem mc_X4_faultOfPad : Cond.code yX4_faultOfPad cX4_faultOfPad 3 (some .int) ∈ lw_gd := gd_of (in_t2 (List.mem_of_getElem? (i := 55) (by decide +kernel))) rfl
theorem ml_X4_213 : Cond.methodLink RX4 213 yX4_stageBehind ∈ lw_gd := gd_of (in_t2 (List.mem_of_getElem? (i := 56) (by decide +kernel))) rfl
theorem mt_X4_stageBehind : Cond.static yX4_stageBehind ∈ lw_gd := gd_of (in_t2 (List.mem_of_getElem? (i := 57) (by decide +kernel))) rfl
theorem mc_X4_stageBehind : Cond.code yX4_stageBehind cX4_stageBehind 2 (some .int) ∈ lw_gd := gd_of (in_t2 (List.mem_of_getElem? (i := 58) (by decide +kernel))) rfl
theorem ml_X4_217 : Cond.methodLink RX4 217 yX4_isWord ∈ lw_gd := gd_of (in_t2 (List.mem_of_getElem? (i := 59) (by decide +kernel))) rfl
theorem mt_X4_isWord : Cond.static yX4_isWord ∈ lw_gd := gd_of (in_t2 (List.mem_of_getElem? (i := 60) (by decide +kernel))) rfl
theorem mc_X4_isWord : Cond.code yX4_isWord cX4_isWord 1 (some .boolean) ∈ lw_gd := gd_of (in_t2 (List.mem_of_getElem? (i := 61) (by decide +kernel))) rfl
theorem ml_X4_77 : Cond.methodLink RX4 77 yX4_lettersOfPad ∈ lw_gd := gd_of (in_t2 (List.mem_of_getElem? (i := 62) (by decide +kernel))) rfl
theorem mi_X4_lettersOfPad : Cond.instanceMethod yX4_lettersOfPad ∈ lw_gd := gd_of (in_t2 (List.mem_of_getElem? (i := 64) (by decide +kernel))) rfl
theorem mc_X4_lettersOfPad : Cond.code yX4_lettersOfPad cX4_lettersOfPad 3 (some .int) ∈ lw_gd := gd_of (in_t2 (List.mem_of_getElem? (i := 65) (by decide +kernel))) rfl
theorem ml_X4_41 : Cond.methodLink RX4 41 yX4_remember ∈ lw_gd := gd_of (in_t2 (List.mem_of_getElem? (i := 66) (by decide +kernel))) rfl
theorem mi_X4_remember : Cond.instanceMethod yX4_remember ∈ lw_gd := gd_of (in_t2 (List.mem_of_getElem? (i := 68) (by decide +kernel))) rfl
theorem mc_X4_remember : Cond.code yX4_remember cX4_remember 3 none ∈ lw_gd := gd_of (in_t2 (List.mem_of_getElem? (i := 69) (by decide +kernel))) rfl
theorem ml_X4_80 : Cond.methodLink RX4 80 yX4_writeLettersOfPad ∈ lw_gd := gd_of (in_t2 (List.mem_of_getElem? (i := 70) (by decide +kernel))) rfl
theorem mi_X4_writeLettersOfPad : Cond.instanceMethod yX4_writeLettersOfPad ∈ lw_gd := gd_of (in_t2 (List.mem_of_getElem? (i := 72) (by decide +kernel))) rfl
theorem mc_X4_writeLettersOfPad : Cond.code yX4_writeLettersOfPad cX4_writeLettersOfPad 4 none ∈ lw_gd := gd_of (in_t2 (List.mem_of_getElem? (i := 73) (by decide +kernel))) rfl
theorem ml_X4_221 : Cond.methodLink RX4 221 yX1_addWord ∈ lw_gd := gd_of (in_t2 (List.mem_of_getElem? (i := 74) (by decide +kernel))) rfl
theorem mi_X1_addWord : Cond.instanceMethod yX1_addWord ∈ lw_gd := gd_of (in_t2 (List.mem_of_getElem? (i := 75) (by decide +kernel))) rfl
theorem ms_X1_addWord : Cond.selects RX1 yX1_addWord yX1_addWord ∈ lw_gd := gd_of (in_t2 (List.mem_of_getElem? (i := 76) (by decide +kernel))) rfl
theorem mc_X1_addWord : Cond.code yX1_addWord cX1_addWord 2 none ∈ lw_gd := gd_of (in_t2 (List.mem_of_getElem? (i := 77) (by decide +kernel))) rfl
theorem ml_X4_224 : Cond.methodLink RX4 224 yX2_sendNewest ∈ lw_gd := gd_of (in_t2 (List.mem_of_getElem? (i := 78) (by decide +kernel))) rfl
theorem mi_X2_sendNewest : Cond.instanceMethod yX2_sendNewest ∈ lw_gd := gd_of (in_t2 (List.mem_of_getElem? (i := 79) (by decide +kernel))) rfl
theorem ms_X2_sendNewest : Cond.selects RX2 yX2_sendNewest yX2_sendNewest ∈ lw_gd := gd_of (in_t2 (List.mem_of_getElem? (i := 80) (by decide +kernel))) rfl
theorem mc_X2_sendNewest : Cond.code yX2_sendNewest cX2_sendNewest 2 none ∈ lw_gd := gd_of (in_t2 (List.mem_of_getElem? (i := 81) (by decide +kernel))) rfl
theorem ml_X2_76 : Cond.methodLink RX2 76 yX3_append ∈ lw_gd := gd_of (in_t2 (List.mem_of_getElem? (i := 82) (by decide +kernel))) rfl
theorem mi_X3_append : Cond.instanceMethod yX3_append ∈ lw_gd := gd_of (in_t2 (List.mem_of_getElem? (i := 83) (by decide +kernel))) rfl
theorem ms_X3_append : Cond.selects RX3 yX3_append yX3_append ∈ lw_gd := gd_of (in_t2 (List.mem_of_getElem? (i := 84) (by decide +kernel))) rfl
theorem mc_X3_append : Cond.code yX3_append cX3_append 2 none ∈ lw_gd := gd_of (in_t2 (List.mem_of_getElem? (i := 85) (by decide +kernel))) rfl
theorem ml_X4_227 : Cond.methodLink RX4 227 yX2_beginLetter ∈ lw_gd := gd_of (in_t2 (List.mem_of_getElem? (i := 86) (by decide +kernel))) rfl
theorem mi_X2_beginLetter : Cond.instanceMethod yX2_beginLetter ∈ lw_gd := gd_of (in_t2 (List.mem_of_getElem? (i := 87) (by decide +kernel))) rfl
theorem ms_X2_beginLetter : Cond.selects RX2 yX2_beginLetter yX2_beginLetter ∈ lw_gd := gd_of (in_t2 (List.mem_of_getElem? (i := 88) (by decide +kernel))) rfl
theorem mc_X2_beginLetter : Cond.code yX2_beginLetter cX2_beginLetter 3 (some (FieldType.object "CensoredThreads$Letter")) ∈ lw_gd := gd_of (in_t2 (List.mem_of_getElem? (i := 89) (by decide +kernel))) rfl
theorem ml_X2_69 : Cond.methodLink RX2 69 yX1_begin ∈ lw_gd := gd_of (in_t2 (List.mem_of_getElem? (i := 90) (by decide +kernel))) rfl
theorem mi_X1_begin : Cond.instanceMethod yX1_begin ∈ lw_gd := gd_of (in_t2 (List.mem_of_getElem? (i := 91) (by decide +kernel))) rfl
theorem ms_X1_begin : Cond.selects RX1 yX1_begin yX1_begin ∈ lw_gd := gd_of (in_t2 (List.mem_of_getElem? (i := 92) (by decide +kernel))) rfl
theorem mc_X1_begin : Cond.code yX1_begin cX1_begin 3 none ∈ lw_gd := gd_of (in_t2 (List.mem_of_getElem? (i := 93) (by decide +kernel))) rfl
theorem ml_L_33 : Cond.methodLink RL 33 yX4_wipe ∈ lw_gd := gd_of (in_t2 (List.mem_of_getElem? (i := 94) (by decide +kernel))) rfl
theorem mi_X4_wipe : Cond.instanceMethod yX4_wipe ∈ lw_gd := gd_of (in_t2 (List.mem_of_getElem? (i := 95) (by decide +kernel))) rfl
theorem ms_X4_wipe : Cond.selects RX4 yX4_wipe yX4_wipe ∈ lw_gd := gd_of (in_t2 (List.mem_of_getElem? (i := 96) (by decide +kernel))) rfl
theorem mc_X4_wipe : Cond.code yX4_wipe cX4_wipe 2 (some .int) ∈ lw_gd := gd_of (in_t2 (List.mem_of_getElem? (i := 97) (by decide +kernel))) rfl
theorem ml_L_36 : Cond.methodLink RL 36 yX4_strike ∈ lw_gd := gd_of (in_t2 (List.mem_of_getElem? (i := 98) (by decide +kernel))) rfl
theorem mi_X4_strike : Cond.instanceMethod yX4_strike ∈ lw_gd := gd_of (in_t2 (List.mem_of_getElem? (i := 99) (by decide +kernel))) rfl
theorem ms_X4_strike : Cond.selects RX4 yX4_strike yX4_strike ∈ lw_gd := gd_of (in_t2 (List.mem_of_getElem? (i := 100) (by decide +kernel))) rfl
theorem mc_X4_strike : Cond.code yX4_strike cX4_strike 4 (some .int) ∈ lw_gd := gd_of (in_t2 (List.mem_of_getElem? (i := 101) (by decide +kernel))) rfl
theorem ml_X4_57 : Cond.methodLink RX4 57 yJ6_bitCount_0f7a4 ∈ lw_gd := gd_of (in_t2 (List.mem_of_getElem? (i := 102) (by decide +kernel))) rfl
theorem ml_L_39 : Cond.methodLink RL 39 yX4_trade ∈ lw_gd := gd_of (in_t2 (List.mem_of_getElem? (i := 103) (by decide +kernel))) rfl
theorem mi_X4_trade : Cond.instanceMethod yX4_trade ∈ lw_gd := gd_of (in_t2 (List.mem_of_getElem? (i := 104) (by decide +kernel))) rfl
theorem ms_X4_trade : Cond.selects RX4 yX4_trade yX4_trade ∈ lw_gd := gd_of (in_t2 (List.mem_of_getElem? (i := 105) (by decide +kernel))) rfl
theorem mc_X4_trade : Cond.code yX4_trade cX4_trade 3 (some .int) ∈ lw_gd := gd_of (in_t2 (List.mem_of_getElem? (i := 106) (by decide +kernel))) rfl
theorem ml_X4_66 : Cond.methodLink RX4 66 yX2_tradeShifts ∈ lw_gd := gd_of (in_t2 (List.mem_of_getElem? (i := 107) (by decide +kernel))) rfl
theorem mi_X2_tradeShifts : Cond.instanceMethod yX2_tradeShifts ∈ lw_gd := gd_of (in_t2 (List.mem_of_getElem? (i := 108) (by decide +kernel))) rfl
theorem ms_X2_tradeShifts : Cond.selects RX2 yX2_tradeShifts yX2_tradeShifts ∈ lw_gd := gd_of (in_t2 (List.mem_of_getElem? (i := 109) (by decide +kernel))) rfl
theorem mc_X2_tradeShifts : Cond.code yX2_tradeShifts cX2_tradeShifts 4 none ∈ lw_gd := gd_of (in_t2 (List.mem_of_getElem? (i := 110) (by decide +kernel))) rfl
theorem ml_L_42 : Cond.methodLink RL 42 yX4_set ∈ lw_gd := gd_of (in_t2 (List.mem_of_getElem? (i := 111) (by decide +kernel))) rfl
theorem mi_X4_set : Cond.instanceMethod yX4_set ∈ lw_gd := gd_of (in_t2 (List.mem_of_getElem? (i := 112) (by decide +kernel))) rfl
theorem ms_X4_set : Cond.selects RX4 yX4_set yX4_set ∈ lw_gd := gd_of (in_t2 (List.mem_of_getElem? (i := 113) (by decide +kernel))) rfl
theorem mc_X4_set : Cond.code yX4_set cX4_set 4 (some .int) ∈ lw_gd := gd_of (in_t2 (List.mem_of_getElem? (i := 114) (by decide +kernel))) rfl
theorem lk_X4_34 : Cond.fieldLink RX4 34 RX4 "LEAST_VALUES" "[I" ∈ lw_gd := gd_of (in_t2 (List.mem_of_getElem? (i := 115) (by decide +kernel))) rfl
theorem ls_LEAST_VALUES : Cond.laysStatic RX4 "LEAST_VALUES" "[I" ∈ lw_tbl := in_t2 (List.mem_of_getElem? (i := 116) (by decide +kernel))
theorem lk_X4_38 : Cond.fieldLink RX4 38 RX4 "MOST_VALUES" "[I" ∈ lw_gd := gd_of (in_t2 (List.mem_of_getElem? (i := 117) (by decide +kernel))) rfl
theorem ls_MOST_VALUES : Cond.laysStatic RX4 "MOST_VALUES" "[I" ∈ lw_tbl := in_t2 (List.mem_of_getElem? (i := 118) (by decide +kernel))
theorem ml_L_45 : Cond.methodLink RL 45 yX4_burn ∈ lw_gd := gd_of (in_t2 (List.mem_of_getElem? (i := 119) (by decide +kernel))) rfl
theorem mi_X4_burn : Cond.instanceMethod yX4_burn ∈ lw_gd := gd_of (in_t2 (List.mem_of_getElem? (i := 120) (by decide +kernel))) rfl
theorem ms_X4_burn : Cond.selects RX4 yX4_burn yX4_burn ∈ lw_gd := gd_of (in_t2 (List.mem_of_getElem? (i := 121) (by decide +kernel))) rfl
theorem mc_X4_burn : Cond.code yX4_burn cX4_burn 2 (some .int) ∈ lw_gd := gd_of (in_t2 (List.mem_of_getElem? (i := 122) (by decide +kernel))) rfl
theorem ml_X4_86 : Cond.methodLink RX4 86 yX2_hasLetter ∈ lw_gd := gd_of (in_t2 (List.mem_of_getElem? (i := 123) (by decide +kernel))) rfl
theorem mi_X2_hasLetter : Cond.instanceMethod yX2_hasLetter ∈ lw_gd := gd_of (in_t2 (List.mem_of_getElem? (i := 124) (by decide +kernel))) rfl
theorem ms_X2_hasLetter : Cond.selects RX2 yX2_hasLetter yX2_hasLetter ∈ lw_gd := gd_of (in_t2 (List.mem_of_getElem? (i := 125) (by decide +kernel))) rfl
theorem mc_X2_hasLetter : Cond.code yX2_hasLetter cX2_hasLetter 2 (some .boolean) ∈ lw_gd := gd_of (in_t2 (List.mem_of_getElem? (i := 126) (by decide +kernel))) rfl
theorem ml_X4_99 : Cond.methodLink RX4 99 yX2_burnWaiting ∈ lw_gd := gd_of (in_t2 (List.mem_of_getElem? (i := 127) (by decide +kernel))) rfl
theorem mi_X2_burnWaiting : Cond.instanceMethod yX2_burnWaiting ∈ lw_gd := gd_of (in_t2 (List.mem_of_getElem? (i := 128) (by decide +kernel))) rfl
theorem ms_X2_burnWaiting : Cond.selects RX2 yX2_burnWaiting yX2_burnWaiting ∈ lw_gd := gd_of (in_t2 (List.mem_of_getElem? (i := 129) (by decide +kernel))) rfl
theorem mc_X2_burnWaiting : Cond.code yX2_burnWaiting cX2_burnWaiting 2 none ∈ lw_gd := gd_of (in_t2 (List.mem_of_getElem? (i := 130) (by decide +kernel))) rfl
theorem ml_X2_83 : Cond.methodLink RX2 83 yX3_takeOut ∈ lw_gd := gd_of (in_t2 (List.mem_of_getElem? (i := 131) (by decide +kernel))) rfl
theorem mi_X3_takeOut : Cond.instanceMethod yX3_takeOut ∈ lw_gd := gd_of (in_t2 (List.mem_of_getElem? (i := 132) (by decide +kernel))) rfl
theorem ms_X3_takeOut : Cond.selects RX3 yX3_takeOut yX3_takeOut ∈ lw_gd := gd_of (in_t2 (List.mem_of_getElem? (i := 133) (by decide +kernel))) rfl
theorem mc_X3_takeOut : Cond.code yX3_takeOut cX3_takeOut 4 none ∈ lw_gd := gd_of (in_t2 (List.mem_of_getElem? (i := 134) (by decide +kernel))) rfl
theorem ml_L_48 : Cond.methodLink RL 48 yL_passes ∈ lw_gd := gd_of (in_t2 (List.mem_of_getElem? (i := 135) (by decide +kernel))) rfl
theorem mt_L_passes : Cond.static yL_passes ∈ lw_gd := gd_of (in_t2 (List.mem_of_getElem? (i := 136) (by decide +kernel))) rfl
theorem mc_L_passes : Cond.code yL_passes cL_passes 14 (some .int) ∈ lw_gd := gd_of (in_t2 (List.mem_of_getElem? (i := 137) (by decide +kernel))) rfl
theorem ml_L_52 : Cond.methodLink RL 52 yX4_ifPassed ∈ lw_gd := gd_of (in_t2 (List.mem_of_getElem? (i := 138) (by decide +kernel))) rfl
theorem mi_X4_ifPassed : Cond.instanceMethod yX4_ifPassed ∈ lw_gd := gd_of (in_t2 (List.mem_of_getElem? (i := 139) (by decide +kernel))) rfl
theorem ms_X4_ifPassed : Cond.selects RX4 yX4_ifPassed yX4_ifPassed ∈ lw_gd := gd_of (in_t2 (List.mem_of_getElem? (i := 140) (by decide +kernel))) rfl
theorem mc_X4_ifPassed : Cond.code yX4_ifPassed cX4_ifPassed 4 (some .int) ∈ lw_gd := gd_of (in_t2 (List.mem_of_getElem? (i := 141) (by decide +kernel))) rfl
theorem ml_X4_109 : Cond.methodLink RX4 109 yX2_passWeeks ∈ lw_gd := gd_of (in_t2 (List.mem_of_getElem? (i := 142) (by decide +kernel))) rfl
theorem mi_X2_passWeeks : Cond.instanceMethod yX2_passWeeks ∈ lw_gd := gd_of (in_t2 (List.mem_of_getElem? (i := 143) (by decide +kernel))) rfl
theorem ms_X2_passWeeks : Cond.selects RX2 yX2_passWeeks yX2_passWeeks ∈ lw_gd := gd_of (in_t2 (List.mem_of_getElem? (i := 144) (by decide +kernel))) rfl
theorem mc_X2_passWeeks : Cond.code yX2_passWeeks cX2_passWeeks 4 (some .int) ∈ lw_gd := gd_of (in_t2 (List.mem_of_getElem? (i := 145) (by decide +kernel))) rfl
theorem ml_X2_145 : Cond.methodLink RX2 145 yX2_passWeek ∈ lw_gd := gd_of (in_t2 (List.mem_of_getElem? (i := 146) (by decide +kernel))) rfl
theorem mi_X2_passWeek : Cond.instanceMethod yX2_passWeek ∈ lw_gd := gd_of (in_t2 (List.mem_of_getElem? (i := 147) (by decide +kernel))) rfl
theorem ms_X2_passWeek : Cond.selects RX2 yX2_passWeek yX2_passWeek ∈ lw_gd := gd_of (in_t2 (List.mem_of_getElem? (i := 148) (by decide +kernel))) rfl
theorem mc_X2_passWeek : Cond.code yX2_passWeek cX2_passWeek 3 (some .int) ∈ lw_gd := gd_of (in_t2 (List.mem_of_getElem? (i := 149) (by decide +kernel))) rfl
theorem ml_X2_148 : Cond.methodLink RX2 148 yX2_judgeWeek ∈ lw_gd := gd_of (in_t2 (List.mem_of_getElem? (i := 150) (by decide +kernel))) rfl
theorem mi_X2_judgeWeek : Cond.instanceMethod yX2_judgeWeek ∈ lw_gd := gd_of (in_t2 (List.mem_of_getElem? (i := 151) (by decide +kernel))) rfl
theorem ms_X2_judgeWeek : Cond.selects RX2 yX2_judgeWeek yX2_judgeWeek ∈ lw_gd := gd_of (in_t2 (List.mem_of_getElem? (i := 152) (by decide +kernel))) rfl
theorem mc_X2_judgeWeek : Cond.code yX2_judgeWeek cX2_judgeWeek 2 none ∈ lw_gd := gd_of (in_t2 (List.mem_of_getElem? (i := 153) (by decide +kernel))) rfl
theorem ml_X2_117 : Cond.methodLink RX2 117 yX2_judgeRow ∈ lw_gd := gd_of (in_t2 (List.mem_of_getElem? (i := 154) (by decide +kernel))) rfl
theorem mi_X2_judgeRow : Cond.instanceMethod yX2_judgeRow ∈ lw_gd := gd_of (in_t2 (List.mem_of_getElem? (i := 155) (by decide +kernel))) rfl
theorem ms_X2_judgeRow : Cond.selects RX2 yX2_judgeRow yX2_judgeRow ∈ lw_gd := gd_of (in_t2 (List.mem_of_getElem? (i := 156) (by decide +kernel))) rfl
theorem mc_X2_judgeRow : Cond.code yX2_judgeRow cX2_judgeRow 8 none ∈ lw_gd := gd_of (in_t2 (List.mem_of_getElem? (i := 157) (by decide +kernel))) rfl
theorem ml_X2_120 : Cond.methodLink RX2 120 yX2_censorNumber ∈ lw_gd := gd_of (in_t2 (List.mem_of_getElem? (i := 158) (by decide +kernel))) rfl
theorem ml_X2_129 : Cond.methodLink RX2 129 yX2_fateIfRead ∈ lw_gd := gd_of (in_t2 (List.mem_of_getElem? (i := 159) (by decide +kernel))) rfl
theorem mi_X2_fateIfRead : Cond.instanceMethod yX2_fateIfRead ∈ lw_gd := gd_of (in_t2 (List.mem_of_getElem? (i := 160) (by decide +kernel))) rfl
theorem ms_X2_fateIfRead : Cond.selects RX2 yX2_fateIfRead yX2_fateIfRead ∈ lw_gd := gd_of (in_t2 (List.mem_of_getElem? (i := 161) (by decide +kernel))) rfl
theorem mc_X2_fateIfRead : Cond.code yX2_fateIfRead cX2_fateIfRead 3 (some .int) ∈ lw_gd := gd_of (in_t2 (List.mem_of_getElem? (i := 162) (by decide +kernel))) rfl
theorem ml_X2_133 : Cond.methodLink RX2 133 yX1_placesOf ∈ lw_gd := gd_of (in_t2 (List.mem_of_getElem? (i := 163) (by decide +kernel))) rfl
theorem mi_X1_placesOf : Cond.instanceMethod yX1_placesOf ∈ lw_gd := gd_of (in_t2 (List.mem_of_getElem? (i := 164) (by decide +kernel))) rfl
theorem ms_X1_placesOf : Cond.selects RX1 yX1_placesOf yX1_placesOf ∈ lw_gd := gd_of (in_t2 (List.mem_of_getElem? (i := 165) (by decide +kernel))) rfl
theorem mc_X1_placesOf : Cond.code yX1_placesOf cX1_placesOf 7 (some .int) ∈ lw_gd := gd_of (in_t2 (List.mem_of_getElem? (i := 166) (by decide +kernel))) rfl
theorem lc_X1_49 : Cond.constantLong RX1 49 255 ∈ lw_gd := gd_of (in_t2 (List.mem_of_getElem? (i := 167) (by decide +kernel))) rfl
theorem ml_X2_137 : Cond.methodLink RX2 137 yJ6_bitCount_0f7a4 ∈ lw_gd := gd_of (in_t2 (List.mem_of_getElem? (i := 168) (by decide +kernel))) rfl
theorem ml_X2_151 : Cond.methodLink RX2 151 yX2_readRow ∈ lw_gd := gd_of (in_t2 (List.mem_of_getElem? (i := 169) (by decide +kernel))) rfl
theorem mi_X2_readRow : Cond.instanceMethod yX2_readRow ∈ lw_gd := gd_of (in_t2 (List.mem_of_getElem? (i := 170) (by decide +kernel))) rfl
theorem ms_X2_readRow : Cond.selects RX2 yX2_readRow yX2_readRow ∈ lw_gd := gd_of (in_t2 (List.mem_of_getElem? (i := 171) (by decide +kernel))) rfl
theorem mc_X2_readRow : Cond.code yX2_readRow cX2_readRow 7 (some .int) ∈ lw_gd := gd_of (in_t2 (List.mem_of_getElem? (i := 172) (by decide +kernel))) rfl
theorem ml_X2_154 : Cond.methodLink RX2 154 yX2_letThrough ∈ lw_gd := gd_of (in_t2 (List.mem_of_getElem? (i := 173) (by decide +kernel))) rfl
theorem mi_X2_letThrough : Cond.instanceMethod yX2_letThrough ∈ lw_gd := gd_of (in_t2 (List.mem_of_getElem? (i := 174) (by decide +kernel))) rfl
theorem ms_X2_letThrough : Cond.selects RX2 yX2_letThrough yX2_letThrough ∈ lw_gd := gd_of (in_t2 (List.mem_of_getElem? (i := 175) (by decide +kernel))) rfl
theorem mc_X2_letThrough : Cond.code yX2_letThrough cX2_letThrough 3 none ∈ lw_gd := gd_of (in_t2 (List.mem_of_getElem? (i := 176) (by decide +kernel))) rfl
theorem ml_X2_158 : Cond.methodLink RX2 158 yX2_turnBack ∈ lw_gd := gd_of (in_t2 (List.mem_of_getElem? (i := 177) (by decide +kernel))) rfl
theorem mi_X2_turnBack : Cond.instanceMethod yX2_turnBack ∈ lw_gd := gd_of (in_t2 (List.mem_of_getElem? (i := 178) (by decide +kernel))) rfl
theorem ms_X2_turnBack : Cond.selects RX2 yX2_turnBack yX2_turnBack ∈ lw_gd := gd_of (in_t2 (List.mem_of_getElem? (i := 179) (by decide +kernel))) rfl
theorem mc_X2_turnBack : Cond.code yX2_turnBack cX2_turnBack 3 none ∈ lw_gd := gd_of (in_t2 (List.mem_of_getElem? (i := 180) (by decide +kernel))) rfl
theorem ml_X2_161 : Cond.methodLink RX2 161 yX2_appendIfFate ∈ lw_gd := gd_of (in_t2 (List.mem_of_getElem? (i := 181) (by decide +kernel))) rfl
theorem mi_X2_appendIfFate : Cond.instanceMethod yX2_appendIfFate ∈ lw_gd := gd_of (in_t2 (List.mem_of_getElem? (i := 182) (by decide +kernel))) rfl
theorem ms_X2_appendIfFate : Cond.selects RX2 yX2_appendIfFate yX2_appendIfFate ∈ lw_gd := gd_of (in_t2 (List.mem_of_getElem? (i := 183) (by decide +kernel))) rfl
theorem mc_X2_appendIfFate : Cond.code yX2_appendIfFate cX2_appendIfFate 6 none ∈ lw_gd := gd_of (in_t2 (List.mem_of_getElem? (i := 184) (by decide +kernel))) rfl
theorem ml_L_55 : Cond.methodLink RL 55 yX4_untilCome ∈ lw_gd := gd_of (in_t2 (List.mem_of_getElem? (i := 185) (by decide +kernel))) rfl
theorem mi_X4_untilCome : Cond.instanceMethod yX4_untilCome ∈ lw_gd := gd_of (in_t2 (List.mem_of_getElem? (i := 186) (by decide +kernel))) rfl
theorem ms_X4_untilCome : Cond.selects RX4 yX4_untilCome yX4_untilCome ∈ lw_gd := gd_of (in_t2 (List.mem_of_getElem? (i := 187) (by decide +kernel))) rfl
theorem mc_X4_untilCome : Cond.code yX4_untilCome cX4_untilCome 4 (some .int) ∈ lw_gd := gd_of (in_t2 (List.mem_of_getElem? (i := 188) (by decide +kernel))) rfl
theorem ml_X4_198 : Cond.methodLink RX4 198 yX2_passWeek ∈ lw_gd := gd_of (in_t2 (List.mem_of_getElem? (i := 189) (by decide +kernel))) rfl
theorem ml_L_58 : Cond.methodLink RL 58 yX4_why ∈ lw_gd := gd_of (in_t2 (List.mem_of_getElem? (i := 190) (by decide +kernel))) rfl
theorem mi_X4_why : Cond.instanceMethod yX4_why ∈ lw_gd := gd_of (in_t2 (List.mem_of_getElem? (i := 191) (by decide +kernel))) rfl
theorem ms_X4_why : Cond.selects RX4 yX4_why yX4_why ∈ lw_gd := gd_of (in_t2 (List.mem_of_getElem? (i := 192) (by decide +kernel))) rfl
theorem mc_X4_why : Cond.code yX4_why cX4_why 3 (some .int) ∈ lw_gd := gd_of (in_t2 (List.mem_of_getElem? (i := 193) (by decide +kernel))) rfl
theorem ml_X4_151 : Cond.methodLink RX4 151 yX2_judgeWeek ∈ lw_gd := gd_of (in_t2 (List.mem_of_getElem? (i := 194) (by decide +kernel))) rfl
theorem ml_L_61 : Cond.methodLink RL 61 yX4_pass ∈ lw_gd := gd_of (in_t2 (List.mem_of_getElem? (i := 195) (by decide +kernel))) rfl
theorem mi_X4_pass : Cond.instanceMethod yX4_pass ∈ lw_gd := gd_of (in_t2 (List.mem_of_getElem? (i := 196) (by decide +kernel))) rfl
theorem ms_X4_pass : Cond.selects RX4 yX4_pass yX4_pass ∈ lw_gd := gd_of (in_t2 (List.mem_of_getElem? (i := 197) (by decide +kernel))) rfl
theorem mc_X4_pass : Cond.code yX4_pass cX4_pass 2 (some .int) ∈ lw_gd := gd_of (in_t2 (List.mem_of_getElem? (i := 198) (by decide +kernel))) rfl
theorem ml_L_94 : Cond.methodLink RL 94 yL_holds ∈ lw_gd := gd_of (in_t2 (List.mem_of_getElem? (i := 199) (by decide +kernel))) rfl
theorem mt_L_holds : Cond.static yL_holds ∈ lw_gd := gd_of (in_t2 (List.mem_of_getElem? (i := 200) (by decide +kernel))) rfl
theorem mc_L_holds : Cond.code yL_holds cL_holds 13 (some .boolean) ∈ lw_gd := gd_of (in_t2 (List.mem_of_getElem? (i := 201) (by decide +kernel))) rfl
theorem ml_L_64 : Cond.methodLink RL 64 yX4_letter ∈ lw_gd := gd_of (in_t2 (List.mem_of_getElem? (i := 202) (by decide +kernel))) rfl
theorem mi_X4_letter : Cond.instanceMethod yX4_letter ∈ lw_gd := gd_of (in_t2 (List.mem_of_getElem? (i := 203) (by decide +kernel))) rfl
theorem ms_X4_letter : Cond.selects RX4 yX4_letter yX4_letter ∈ lw_gd := gd_of (in_t2 (List.mem_of_getElem? (i := 204) (by decide +kernel))) rfl
theorem mc_X4_letter : Cond.code yX4_letter cX4_letter 4 (some .int) ∈ lw_gd := gd_of (in_t2 (List.mem_of_getElem? (i := 205) (by decide +kernel))) rfl
theorem ml_X4_122 : Cond.methodLink RX4 122 yX3_placeOf ∈ lw_gd := gd_of (in_t2 (List.mem_of_getElem? (i := 206) (by decide +kernel))) rfl
theorem mi_X3_placeOf : Cond.instanceMethod yX3_placeOf ∈ lw_gd := gd_of (in_t2 (List.mem_of_getElem? (i := 207) (by decide +kernel))) rfl
theorem ms_X3_placeOf : Cond.selects RX3 yX3_placeOf yX3_placeOf ∈ lw_gd := gd_of (in_t2 (List.mem_of_getElem? (i := 208) (by decide +kernel))) rfl
theorem mc_X3_placeOf : Cond.code yX3_placeOf cX3_placeOf 3 (some .int) ∈ lw_gd := gd_of (in_t2 (List.mem_of_getElem? (i := 209) (by decide +kernel))) rfl
theorem ml_X4_130 : Cond.methodLink RX4 130 yX1_struckCount ∈ lw_gd := gd_of (in_t2 (List.mem_of_getElem? (i := 210) (by decide +kernel))) rfl
theorem ml_X4_139 : Cond.methodLink RX4 139 yX2_aheadOf ∈ lw_gd := gd_of (in_t2 (List.mem_of_getElem? (i := 211) (by decide +kernel))) rfl
theorem mi_X2_aheadOf : Cond.instanceMethod yX2_aheadOf ∈ lw_gd := gd_of (in_t2 (List.mem_of_getElem? (i := 212) (by decide +kernel))) rfl
theorem ms_X2_aheadOf : Cond.selects RX2 yX2_aheadOf yX2_aheadOf ∈ lw_gd := gd_of (in_t2 (List.mem_of_getElem? (i := 213) (by decide +kernel))) rfl
theorem mc_X2_aheadOf : Cond.code yX2_aheadOf cX2_aheadOf 3 (some .int) ∈ lw_gd := gd_of (in_t2 (List.mem_of_getElem? (i := 214) (by decide +kernel))) rfl
theorem ml_L_70 : Cond.methodLink RL 70 yL_isLetter ∈ lw_gd := gd_of (in_t2 (List.mem_of_getElem? (i := 215) (by decide +kernel))) rfl
theorem mt_L_isLetter : Cond.static yL_isLetter ∈ lw_gd := gd_of (in_t2 (List.mem_of_getElem? (i := 216) (by decide +kernel))) rfl
theorem mc_L_isLetter : Cond.code yL_isLetter cL_isLetter 9 (some .boolean) ∈ lw_gd := gd_of (in_t2 (List.mem_of_getElem? (i := 217) (by decide +kernel))) rfl
theorem ml_L_67 : Cond.methodLink RL 67 yX4_word ∈ lw_gd := gd_of (in_t2 (List.mem_of_getElem? (i := 218) (by decide +kernel))) rfl
theorem mi_X4_word : Cond.instanceMethod yX4_word ∈ lw_gd := gd_of (in_t2 (List.mem_of_getElem? (i := 219) (by decide +kernel))) rfl
theorem ms_X4_word : Cond.selects RX4 yX4_word yX4_word ∈ lw_gd := gd_of (in_t2 (List.mem_of_getElem? (i := 220) (by decide +kernel))) rfl
theorem mc_X4_word : Cond.code yX4_word cX4_word 4 (some .int) ∈ lw_gd := gd_of (in_t2 (List.mem_of_getElem? (i := 221) (by decide +kernel))) rfl
theorem ml_X4_145 : Cond.methodLink RX4 145 yX1_isStruckAt ∈ lw_gd := gd_of (in_t2 (List.mem_of_getElem? (i := 222) (by decide +kernel))) rfl
theorem mi_X1_isStruckAt : Cond.instanceMethod yX1_isStruckAt ∈ lw_gd := gd_of (in_t2 (List.mem_of_getElem? (i := 223) (by decide +kernel))) rfl
theorem ms_X1_isStruckAt : Cond.selects RX1 yX1_isStruckAt yX1_isStruckAt ∈ lw_gd := gd_of (in_t2 (List.mem_of_getElem? (i := 224) (by decide +kernel))) rfl
theorem mc_X1_isStruckAt : Cond.code yX1_isStruckAt cX1_isStruckAt 2 (some .boolean) ∈ lw_gd := gd_of (in_t2 (List.mem_of_getElem? (i := 225) (by decide +kernel))) rfl
theorem ml_X4_148 : Cond.methodLink RX4 148 yX1_codeAt ∈ lw_gd := gd_of (in_t2 (List.mem_of_getElem? (i := 226) (by decide +kernel))) rfl
theorem mi_X1_codeAt : Cond.instanceMethod yX1_codeAt ∈ lw_gd := gd_of (in_t2 (List.mem_of_getElem? (i := 227) (by decide +kernel))) rfl
theorem ms_X1_codeAt : Cond.selects RX1 yX1_codeAt yX1_codeAt ∈ lw_gd := gd_of (in_t2 (List.mem_of_getElem? (i := 228) (by decide +kernel))) rfl
theorem mc_X1_codeAt : Cond.code yX1_codeAt cX1_codeAt 2 (some .int) ∈ lw_gd := gd_of (in_t2 (List.mem_of_getElem? (i := 229) (by decide +kernel))) rfl
theorem ml_L_74 : Cond.methodLink RL 74 yX4_censor ∈ lw_gd := gd_of (in_t2 (List.mem_of_getElem? (i := 230) (by decide +kernel))) rfl
theorem mi_X4_censor : Cond.instanceMethod yX4_censor ∈ lw_gd := gd_of (in_t2 (List.mem_of_getElem? (i := 231) (by decide +kernel))) rfl
theorem ms_X4_censor : Cond.selects RX4 yX4_censor yX4_censor ∈ lw_gd := gd_of (in_t2 (List.mem_of_getElem? (i := 232) (by decide +kernel))) rfl
theorem mc_X4_censor : Cond.code yX4_censor cX4_censor 4 (some .int) ∈ lw_gd := gd_of (in_t2 (List.mem_of_getElem? (i := 233) (by decide +kernel))) rfl
theorem ml_X4_157 : Cond.methodLink RX4 157 yX2_shiftsOf ∈ lw_gd := gd_of (in_t2 (List.mem_of_getElem? (i := 234) (by decide +kernel))) rfl
theorem mi_X2_shiftsOf : Cond.instanceMethod yX2_shiftsOf ∈ lw_gd := gd_of (in_t2 (List.mem_of_getElem? (i := 235) (by decide +kernel))) rfl
theorem ms_X2_shiftsOf : Cond.selects RX2 yX2_shiftsOf yX2_shiftsOf ∈ lw_gd := gd_of (in_t2 (List.mem_of_getElem? (i := 236) (by decide +kernel))) rfl
theorem mc_X2_shiftsOf : Cond.code yX2_shiftsOf cX2_shiftsOf 4 (some .int) ∈ lw_gd := gd_of (in_t2 (List.mem_of_getElem? (i := 237) (by decide +kernel))) rfl
theorem ml_L_77 : Cond.methodLink RL 77 yL_bits ∈ lw_gd := gd_of (in_t2 (List.mem_of_getElem? (i := 238) (by decide +kernel))) rfl
theorem mt_L_bits : Cond.static yL_bits ∈ lw_gd := gd_of (in_t2 (List.mem_of_getElem? (i := 239) (by decide +kernel))) rfl
theorem mc_L_bits : Cond.code yL_bits cL_bits 3 (some .int) ∈ lw_gd := gd_of (in_t3 (List.mem_of_getElem? (i := 0) (by decide +kernel))) rfl
theorem ml_L_108 : Cond.methodLink RL 108 yL_tries ∈ lw_gd := gd_of (in_t3 (List.mem_of_getElem? (i := 1) (by decide +kernel))) rfl
theorem mt_L_tries : Cond.static yL_tries ∈ lw_gd := gd_of (in_t3 (List.mem_of_getElem? (i := 2) (by decide +kernel))) rfl
theorem mc_L_tries : Cond.code yL_tries cL_tries 10 (some .boolean) ∈ lw_gd := gd_of (in_t3 (List.mem_of_getElem? (i := 3) (by decide +kernel))) rfl
theorem ml_L_80 : Cond.methodLink RL 80 yX4_bestTrade ∈ lw_gd := gd_of (in_t3 (List.mem_of_getElem? (i := 4) (by decide +kernel))) rfl
theorem mi_X4_bestTrade : Cond.instanceMethod yX4_bestTrade ∈ lw_gd := gd_of (in_t3 (List.mem_of_getElem? (i := 5) (by decide +kernel))) rfl
theorem ms_X4_bestTrade : Cond.selects RX4 yX4_bestTrade yX4_bestTrade ∈ lw_gd := gd_of (in_t3 (List.mem_of_getElem? (i := 6) (by decide +kernel))) rfl
theorem mc_X4_bestTrade : Cond.code yX4_bestTrade cX4_bestTrade 6 (some .int) ∈ lw_gd := gd_of (in_t3 (List.mem_of_getElem? (i := 7) (by decide +kernel))) rfl
theorem ml_L_86 : Cond.methodLink RL 86 yX4_leastLimit ∈ lw_gd := gd_of (in_t3 (List.mem_of_getElem? (i := 8) (by decide +kernel))) rfl
theorem mi_X4_leastLimit : Cond.instanceMethod yX4_leastLimit ∈ lw_gd := gd_of (in_t3 (List.mem_of_getElem? (i := 9) (by decide +kernel))) rfl
theorem ms_X4_leastLimit : Cond.selects RX4 yX4_leastLimit yX4_leastLimit ∈ lw_gd := gd_of (in_t3 (List.mem_of_getElem? (i := 10) (by decide +kernel))) rfl
theorem mc_X4_leastLimit : Cond.code yX4_leastLimit cX4_leastLimit 2 (some .int) ∈ lw_gd := gd_of (in_t3 (List.mem_of_getElem? (i := 11) (by decide +kernel))) rfl
theorem ml_X4_201 : Cond.methodLink RX4 201 yX4_turnsBackWith ∈ lw_gd := gd_of (in_t3 (List.mem_of_getElem? (i := 12) (by decide +kernel))) rfl
theorem mi_X4_turnsBackWith : Cond.instanceMethod yX4_turnsBackWith ∈ lw_gd := gd_of (in_t3 (List.mem_of_getElem? (i := 14) (by decide +kernel))) rfl
theorem mc_X4_turnsBackWith : Cond.code yX4_turnsBackWith cX4_turnsBackWith 4 (some .boolean) ∈ lw_gd := gd_of (in_t3 (List.mem_of_getElem? (i := 15) (by decide +kernel))) rfl
theorem ml_X4_204 : Cond.methodLink RX4 204 yX2_lettersTurnedByAll ∈ lw_gd := gd_of (in_t3 (List.mem_of_getElem? (i := 16) (by decide +kernel))) rfl
theorem mi_X2_lettersTurnedByAll : Cond.instanceMethod yX2_lettersTurnedByAll ∈ lw_gd := gd_of (in_t3 (List.mem_of_getElem? (i := 17) (by decide +kernel))) rfl
theorem ms_X2_lettersTurnedByAll : Cond.selects RX2 yX2_lettersTurnedByAll yX2_lettersTurnedByAll ∈ lw_gd := gd_of (in_t3 (List.mem_of_getElem? (i := 18) (by decide +kernel))) rfl
theorem mc_X2_lettersTurnedByAll : Cond.code yX2_lettersTurnedByAll cX2_lettersTurnedByAll 3 (some .int) ∈ lw_gd := gd_of (in_t3 (List.mem_of_getElem? (i := 19) (by decide +kernel))) rfl
theorem ml_L_89 : Cond.methodLink RL 89 yL_isCalm ∈ lw_gd := gd_of (in_t3 (List.mem_of_getElem? (i := 20) (by decide +kernel))) rfl
theorem mt_L_isCalm : Cond.static yL_isCalm ∈ lw_gd := gd_of (in_t3 (List.mem_of_getElem? (i := 21) (by decide +kernel))) rfl
theorem mc_L_isCalm : Cond.code yL_isCalm cL_isCalm 3 (some .boolean) ∈ lw_gd := gd_of (in_t3 (List.mem_of_getElem? (i := 22) (by decide +kernel))) rfl
theorem ms_X4_faultOfPad : Cond.selects RX4 yX4_faultOfPad yX4_faultOfPad ∈ lw_gd := gd_of (List.mem_append_left _ (List.mem_of_getElem? (i := 0) (by decide +kernel))) rfl
theorem ms_X4_lettersOfPad : Cond.selects RX4 yX4_lettersOfPad yX4_lettersOfPad ∈ lw_gd := gd_of (List.mem_append_left _ (List.mem_of_getElem? (i := 1) (by decide +kernel))) rfl
theorem ms_X4_remember : Cond.selects RX4 yX4_remember yX4_remember ∈ lw_gd := gd_of (List.mem_append_left _ (List.mem_of_getElem? (i := 2) (by decide +kernel))) rfl
theorem ms_X4_writeLettersOfPad : Cond.selects RX4 yX4_writeLettersOfPad yX4_writeLettersOfPad ∈ lw_gd := gd_of (List.mem_append_left _ (List.mem_of_getElem? (i := 3) (by decide +kernel))) rfl
theorem ms_X4_turnsBackWith : Cond.selects RX4 yX4_turnsBackWith yX4_turnsBackWith ∈ lw_gd := gd_of (List.mem_append_left _ (List.mem_of_getElem? (i := 4) (by decide +kernel))) rfl
theorem inX0 : ∀ w ∈ u_ws RX0 TX0 4, w ∈ lw_gd := by decide +kernel
theorem inX1 : ∀ w ∈ u_ws RX1 TX1 11, w ∈ lw_gd := by decide +kernel
theorem inX2 : ∀ w ∈ u_ws RX2 TX2 9, w ∈ lw_gd := by decide +kernel
theorem inX3 : ∀ w ∈ u_ws RX3 TX3 2, w ∈ lw_gd := by decide +kernel
theorem inX4 : ∀ w ∈ u_ws RX4 TX4 8, w ∈ lw_gd := by decide +kernel
